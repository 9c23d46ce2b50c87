/** Terms: what ACTS does, and the effects. */
public final class TermsActingTest {
    public static void main(String[] args) {
        boxIsTurnedOnOrOff();
        noneAtFirst();
        targetThatIsNotThere();
        visibilityIsTurnedOver();
        visibilityBelowOneThatIsHidden();
        beingEnabledIsTurnedOver();
        beingEnabledBelowOneThatIsNot();
        highestOfItsSiblings();
        highestThatIsHighestAlready();
        shiftGrows();
        shiftFrom20ToMinus20();
        shiftOfOneAlone();
        focusIfItIsNoPanel();
        focusThatItHasAlready();
        focusOfOneThatIsNotSeenOrAble();
        actsInItsTurn();
        notIfItDidInThisEvent();
        againInTheNextEvent();
        chainOfAllTwelve();
        rootAsTarget();
        itselfAsTarget();
        Due.end();
    }

    /** A button 1, a box 2, a field 3 and a panel 4 side by side. */
    private static PaneDesk four() {
        PaneDesk desk = new PaneDesk();
        desk.make(0, 1, 0, 0, 4, 4, 3);
        desk.make(0, 2, 5, 0, 4, 4, 4);
        desk.make(0, 3, 10, 0, 4, 4, 5);
        desk.make(0, 0, 15, 0, 4, 4, 6);
        return desk;
    }

    private static void boxIsTurnedOnOrOff() {
        Due.sentence("ACTS (noted, 96): a box is turned on or off.");
        PaneDesk desk = four();
        int[] xs = {1, 6, 11, 16};
        for (int turn = 1; turn <= 3; turn++) {
            for (int widget = 1; widget <= 4; widget++) {
                Due.click(desk, xs[widget - 1], 1);
                Due.is("noted(0)", desk.noted(0), 96 + widget);
                Due.is("on " + widget, desk.state(widget, 1), widget == 2 ? turn % 2 : 0);
            }
        }
    }

    private static void noneAtFirst() {
        Due.sentence("the EFFECT that the widget has (0 none, at first)");
        for (int round = 0; round < 2; round++) {
            PaneDesk desk = four();
            if (round == 1) {
                desk.effect(1, 1, 4);
                desk.effect(1, 0, 4);
            }
            Due.click(desk, 1, 1);
            Due.notes(desk, 4, 33, 49, 81, 97);
            for (int widget = 0; widget <= 4; widget++) {
                Due.is("SEEN", desk.state(widget, 2), 1);
                Due.is("ABLE", desk.state(widget, 3), 1);
            }
            Due.specials(desk, 1, -1, 1);
        }
    }

    private static void targetThatIsNotThere() {
        Due.sentence("for its TARGET if that is there");
        for (int effect = 1; effect <= 6; effect++) {
            for (int target = 5; target < 12; target += 6) {
                PaneDesk desk = four();
                desk.effect(1, effect, target);
                Due.click(desk, 1, 1);
                Due.notes(desk, 4, 33, 49, 81, 97);
                Due.specials(desk, 1, -1, 1);
                Due.is("children of the root", desk.state(0, 5), 4);
                Due.is("make after it", desk.make(0, 0, 0, 0, 1, 1, 1), 5);
                Due.is("SEEN", desk.state(5, 2), 1);
                Due.is("ABLE", desk.state(5, 3), 1);
            }
        }
    }

    private static void visibilityIsTurnedOver() {
        Due.sentence("1 its visibility [...] is turned over");
        PaneDesk desk = four();
        desk.effect(1, 1, 4);
        Due.click(desk, 1, 1);
        Due.is("hidden", desk.state(4, 2), 0);
        Due.is("still able", desk.state(4, 3), 1);
        Due.is("pixel(16, 1)", desk.pixel(16, 1), 1);
        Due.click(desk, 1, 1);
        Due.is("shown", desk.state(4, 2), 1);
        Due.is("pixel(16, 1)", desk.pixel(16, 1), 6);
    }

    private static void visibilityBelowOneThatIsHidden() {
        PaneDesk desk = four();
        desk.make(4, 0, 0, 0, 2, 2, 7);
        desk.change(4, 1, 0);
        desk.effect(1, 1, 5);
        Due.click(desk, 1, 1);
        desk.change(4, 1, 1);
        Due.is("its own was turned over", desk.state(5, 2), 0);
        desk.change(4, 1, 0);
        Due.click(desk, 1, 1);
        desk.change(4, 1, 1);
        Due.is("and over again", desk.state(5, 2), 1);
    }

    private static void beingEnabledIsTurnedOver() {
        Due.sentence("2 its being enabled is turned over");
        PaneDesk desk = four();
        desk.effect(1, 2, 4);
        Due.click(desk, 1, 1);
        Due.is("disabled", desk.state(4, 3), 0);
        Due.is("still seen", desk.state(4, 2), 1);
        Due.click(desk, 1, 1);
        Due.is("enabled", desk.state(4, 3), 1);
    }

    private static void beingEnabledBelowOneThatIsNot() {
        PaneDesk desk = four();
        desk.make(4, 0, 0, 0, 2, 2, 7);
        desk.change(4, 2, 0);
        desk.effect(1, 2, 5);
        Due.click(desk, 1, 1);
        desk.change(4, 2, 1);
        Due.is("its own was turned over", desk.state(5, 3), 0);
        desk.change(4, 2, 0);
        Due.click(desk, 1, 1);
        desk.change(4, 2, 1);
        Due.is("and over again", desk.state(5, 3), 1);
    }

    private static void highestOfItsSiblings() {
        Due.sentence("3 it becomes the highest of its siblings");
        PaneDesk desk = four();
        desk.wish(3, 16, 1, 4, 4);
        Due.is("at(16, 1)", desk.at(16, 1), 4);
        desk.effect(1, 3, 3);
        Due.click(desk, 1, 1);
        Due.is("at(16, 1)", desk.at(16, 1), 3);
        desk.effect(1, 3, 4);
        Due.click(desk, 1, 1);
        Due.is("at(16, 1)", desk.at(16, 1), 4);
        desk.make(3, 0, 0, 0, 4, 4, 7);
        desk.effect(1, 3, 5);
        Due.click(desk, 1, 1);
        Due.is("not above its parent's siblings", desk.at(16, 1), 4);
    }

    private static void highestThatIsHighestAlready() {
        PaneDesk desk = four();
        desk.wish(3, 16, 1, 4, 4);
        desk.effect(1, 3, 4);
        for (int i = 0; i < 20; i++) {
            Due.click(desk, 1, 1);
            Due.is("at(16, 1)", desk.at(16, 1), 4);
            Due.is("children of the root", desk.state(0, 5), 4);
        }
    }

    private static void shiftGrows() {
        Due.sentence("4 both numbers of its shift grow by 1");
        int[] starts = {-20, -1, 0, 18, 19};
        for (int x : starts) {
            for (int y : starts) {
                checkShift(x, y, x + 1, y + 1);
            }
        }
    }

    private static void shiftFrom20ToMinus20() {
        Due.sentence("(from 20 to -20)");
        checkShift(20, 20, -20, -20);
        checkShift(20, 3, -20, 4);
        checkShift(3, 20, 4, -20);
        checkShift(20, -20, -20, -19);
        checkShift(19, 20, 20, -20);
        PaneDesk desk = four();
        desk.make(4, 0, 0, 0, 2, 2, 7);
        desk.effect(1, 4, 4);
        desk.shift(4, 19, 19);
        int[] shifts = {20, -20, -19};
        for (int shift : shifts) {
            Due.click(desk, 1, 1);
            Due.rectangle(desk, 5, 15 - shift, -shift, 2, 2);
        }
        for (int i = 0; i < 41; i++) {
            Due.click(desk, 1, 1);
        }
        Due.rectangle(desk, 5, 15 + 19, 19, 2, 2);
    }

    private static void checkShift(int x, int y, int nextX, int nextY) {
        PaneDesk desk = four();
        desk.make(4, 0, 1, 1, 2, 2, 7);
        desk.shift(4, x, y);
        desk.effect(1, 4, 4);
        Due.click(desk, 1, 1);
        Due.rectangle(desk, 5, 15 + 1 - nextX, 1 - nextY, 2, 2);
        Due.rectangle(desk, 4, 15, 0, 4, 4);
    }

    private static void shiftOfOneAlone() {
        Due.sentence("4 both numbers of its shift grow by 1 (and of no other)");
        PaneDesk desk = new PaneDesk();
        for (int widget = 1; widget <= 5; widget++) {
            desk.make(0, 1, 0, 0, 4, 4, 3);
        }
        for (int widget = 1; widget <= 5; widget++) {
            desk.make(widget, 3, 4, 4, 1, 1, 3);
        }
        desk.effect(5, 4, 3);
        Due.click(desk, 0, 0);
        for (int widget = 1; widget <= 5; widget++) {
            int place = widget == 3 ? 3 : 4;
            Due.rectangle(desk, widget + 5, place, place, 1, 1);
        }
    }

    private static void focusIfItIsNoPanel() {
        Due.sentence("5 it gets the FOCUS if it is no panel");
        for (int target = 1; target <= 3; target++) {
            PaneDesk desk = four();
            desk.make(0, 1, 20, 0, 4, 4, 7);
            desk.effect(5, 5, target);
            Due.click(desk, 21, 1);
            Due.specials(desk, 5, -1, target);
            Due.notes(desk, 5, 37, 53, 85, 101, 80 + target);
        }
        PaneDesk desk = four();
        desk.effect(1, 5, 4);
        Due.click(desk, 1, 1);
        Due.specials(desk, 1, -1, 1);
        Due.notes(desk, 4, 33, 49, 81, 97);
    }

    private static void focusThatItHasAlready() {
        Due.sentence("Getting the FOCUS is noted (80) if it had it not (by effect 5)");
        PaneDesk desk = four();
        desk.effect(1, 5, 1);
        Due.click(desk, 1, 1);
        Due.notes(desk, 4, 33, 49, 81, 97);
        Due.specials(desk, 1, -1, 1);
    }

    private static void focusOfOneThatIsNotSeenOrAble() {
        Due.sentence("5 it gets the FOCUS if it is no panel (nothing more is asked of it)");
        for (int what = 1; what <= 2; what++) {
            PaneDesk desk = four();
            desk.change(3, what, 0);
            desk.effect(1, 5, 3);
            Due.click(desk, 1, 1);
            Due.specials(desk, 1, -1, 3);
            Due.notes(desk, 5, 33, 49, 81, 97, 83);
        }
    }

    private static void actsInItsTurn() {
        Due.sentence("6 it ACTS in its turn");
        PaneDesk desk = four();
        desk.change(2, 1, 0);
        desk.change(2, 2, 0);
        desk.effect(1, 6, 2);
        desk.effect(2, 6, 4);
        desk.effect(4, 6, 3);
        desk.effect(3, 2, 1);
        Due.click(desk, 1, 1);
        Due.notes(desk, 7, 33, 49, 81, 97, 98, 100, 99);
        Due.is("box is on", desk.state(2, 1), 1);
        Due.is("disabled by the last", desk.state(1, 3), 0);
        Due.specials(desk, 1, -1, 1);
    }

    private static void notIfItDidInThisEvent() {
        Due.sentence("6 it ACTS in its turn, but not if it did in this event");
        PaneDesk itself = four();
        itself.effect(2, 6, 2);
        Due.click(itself, 6, 1);
        Due.notes(itself, 4, 34, 50, 82, 98);
        Due.is("box is on", itself.state(2, 1), 1);
        PaneDesk two = four();
        two.effect(1, 6, 2);
        two.effect(2, 6, 1);
        Due.click(two, 1, 1);
        Due.notes(two, 5, 33, 49, 81, 97, 98);
        Due.is("box is on", two.state(2, 1), 1);
        PaneDesk notTheFirst = four();
        notTheFirst.effect(1, 6, 2);
        notTheFirst.effect(2, 6, 3);
        notTheFirst.effect(3, 6, 2);
        Due.click(notTheFirst, 1, 1);
        Due.notes(notTheFirst, 6, 33, 49, 81, 97, 98, 99);
        Due.is("box is on", notTheFirst.state(2, 1), 1);
    }

    private static void againInTheNextEvent() {
        Due.sentence("but not if it did in this event (in the next one it does)");
        PaneDesk desk = four();
        desk.effect(1, 6, 2);
        desk.effect(2, 6, 1);
        Due.post(desk, 1, 1, 1);
        Due.post(desk, 2, 1, 1);
        Due.post(desk, 3, 0, 0);
        Due.post(desk, 3, 0, 0);
        Due.is("pump(16)", desk.pump(16), 4);
        Due.notes(desk, 9, 33, 49, 81, 97, 98, 97, 98, 97, 98);
        Due.is("on, off, on", desk.state(2, 1), 1);
        Due.post(desk, 3, 0, 0);
        desk.pump(1);
        Due.is("and off", desk.state(2, 1), 0);
    }

    private static void chainOfAllTwelve() {
        Due.sentence("6 it ACTS in its turn, but not if it did in this event (all twelve)");
        PaneDesk desk = new PaneDesk();
        for (int widget = 1; widget < 12; widget++) {
            desk.make(0, 2, widget, 0, 1, 1, 3);
        }
        for (int widget = 0; widget < 12; widget++) {
            desk.effect(widget, 6, (widget + 1) % 12);
        }
        Due.click(desk, 5, 0);
        Due.notes(desk, 15, 85, 101, 102, 103, 104, 105, 106, 107, 96, 97, 98, 99, 100);
        for (int widget = 1; widget < 12; widget++) {
            Due.is("state(" + widget + ", 1)", desk.state(widget, 1), 1);
        }
        desk.effect(4, 2, 11);
        Due.click(desk, 5, 0);
        Due.is("the twelfth has its effect, too", desk.state(11, 3), 0);
    }

    private static void rootAsTarget() {
        Due.sentence("for its TARGET if that is there (the root always is)");
        PaneDesk desk = four();
        desk.effect(1, 3, 0);
        Due.click(desk, 1, 1);
        Due.is("at(1, 1)", desk.at(1, 1), 1);
        Due.is("children of the root", desk.state(0, 5), 4);
        Due.is("parent of the root", desk.state(0, 4), -1);
        desk.effect(1, 5, 0);
        Due.click(desk, 1, 1);
        Due.specials(desk, 1, -1, 1);
        desk.effect(1, 6, 0);
        Due.click(desk, 1, 1);
        Due.is("the root acts", desk.noted(0), 96);
        desk.effect(1, 4, 0);
        Due.click(desk, 1, 1);
        Due.rectangle(desk, 1, -1, -1, 4, 4);
        Due.rectangle(desk, 0, 0, 0, 32, 16);
        desk.effect(1, 2, 0);
        Due.click(desk, 1, 1);
        Due.is("state(0, 3)", desk.state(0, 3), 0);
        desk.change(0, 2, 1);
        desk.effect(1, 1, 0);
        Due.click(desk, 1, 1);
        Due.is("state(0, 2)", desk.state(0, 2), 0);
        Due.is("screen()", desk.screen(), 0);
    }

    private static void itselfAsTarget() {
        Due.sentence("for its TARGET if that is there (it may be the widget itself)");
        PaneDesk desk = four();
        desk.make(1, 0, 1, 1, 2, 2, 7);
        desk.effect(1, 4, 1);
        Due.click(desk, 0, 0);
        Due.rectangle(desk, 5, 0, 0, 2, 2);
        desk.remove(5);
        desk.wish(2, 2, 2, 4, 4);
        desk.effect(1, 3, 1);
        Due.is("at(2, 2)", desk.at(2, 2), 2);
        Due.click(desk, 1, 1);
        Due.is("at(2, 2)", desk.at(2, 2), 1);
        desk.effect(1, 1, 1);
        Due.click(desk, 1, 1);
        Due.is("hidden", desk.state(1, 2), 0);
        Due.specials(desk, 1, -1, 1);
        desk.change(1, 1, 1);
        desk.effect(1, 2, 1);
        Due.click(desk, 1, 1);
        Due.is("disabled", desk.state(1, 3), 0);
        Due.specials(desk, 1, -1, 1);
    }
}
