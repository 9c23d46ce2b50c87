import java.util.Arrays;

/** Promise 7: change. */
public final class Promise07ChangeTest {
    public static void main(String[] args) {
        colour();
        visibleIfNot0();
        enabledIfNot0();
        highestIfNot0();
        lowestIf0();
        alreadyTheHighestOrLowest();
        onlyAmongItsSiblings();
        stackingAgainAndAgain();
        notForTheRoot();
        restOfTheRoot();
        noSuchWidget();
        anotherWhat();
        colourNot0To15();
        Due.end();
    }

    private static PaneDesk threeOverOneAnother() {
        PaneDesk desk = new PaneDesk();
        desk.make(0, 0, 0, 0, 6, 6, 2);
        desk.make(0, 0, 1, 1, 6, 6, 3);
        desk.make(0, 0, 2, 2, 6, 6, 4);
        return desk;
    }

    private static void refused(int... a) {
        String call = "change" + Arrays.toString(a);
        Twins.changesNothing(call, Twins::lively, desk -> Due.is(call, desk.change(a[0], a[1], a[2]), false));
    }

    private static void colour() {
        Due.sentence("What 0: the colour becomes v (0 .. 15)");
        PaneDesk desk = threeOverOneAnother();
        Due.is("change(3, 0, 15)", desk.change(3, 0, 15), true);
        desk.pump(0);
        Due.is("pixel(2, 2)", desk.pixel(2, 2), 15);
        Due.is("change(3, 0, 0)", desk.change(3, 0, 0), true);
        Due.is("pixel(2, 2) before pump", desk.pixel(2, 2), 15);
        desk.pump(0);
        Due.is("pixel(2, 2)", desk.pixel(2, 2), 3);
        Due.is("at(2, 2)", desk.at(2, 2), 3);
    }

    private static void visibleIfNot0() {
        Due.sentence("1: visible if v is not 0");
        PaneDesk desk = threeOverOneAnother();
        Due.is("change(3, 1, 0)", desk.change(3, 1, 0), true);
        Due.is("state(3, 2)", desk.state(3, 2), 0);
        Due.is("at(2, 2)", desk.at(2, 2), 2);
        Due.is("change(3, 1, 0) again", desk.change(3, 1, 0), true);
        Due.is("state(3, 2)", desk.state(3, 2), 0);
        for (int v : new int[] {1, -1, 2, 16, Integer.MIN_VALUE, Integer.MAX_VALUE}) {
            desk.change(3, 1, 0);
            Due.is("change(3, 1, " + v + ")", desk.change(3, 1, v), true);
            Due.is("state(3, 2)", desk.state(3, 2), 1);
            Due.is("state(3, 3)", desk.state(3, 3), 1);
        }
        Due.is("change(3, 1, 1) again", desk.change(3, 1, 1), true);
        Due.is("state(3, 2)", desk.state(3, 2), 1);
    }

    private static void enabledIfNot0() {
        Due.sentence("2: enabled if v is not 0");
        PaneDesk desk = threeOverOneAnother();
        Due.is("change(3, 2, 0)", desk.change(3, 2, 0), true);
        Due.is("state(3, 3)", desk.state(3, 3), 0);
        Due.is("state(3, 2)", desk.state(3, 2), 1);
        Due.is("at(2, 2)", desk.at(2, 2), 3);
        Due.is("change(3, 2, 0) again", desk.change(3, 2, 0), true);
        Due.is("state(3, 3)", desk.state(3, 3), 0);
        for (int v : new int[] {1, -1, 2, 16, Integer.MIN_VALUE, Integer.MAX_VALUE}) {
            desk.change(3, 2, 0);
            Due.is("change(3, 2, " + v + ")", desk.change(3, 2, v), true);
            Due.is("state(3, 3)", desk.state(3, 3), 1);
            Due.is("state(3, 2)", desk.state(3, 2), 1);
        }
    }

    private static void highestIfNot0() {
        Due.sentence("3: the highest of its siblings if v is not 0");
        for (int v : new int[] {1, -1, 7, 16, Integer.MIN_VALUE, Integer.MAX_VALUE}) {
            PaneDesk desk = threeOverOneAnother();
            Due.is("change(1, 3, " + v + ")", desk.change(1, 3, v), true);
            Due.is("at(2, 2)", desk.at(2, 2), 1);
            Due.is("the others stay as they are", desk.at(6, 6), 3);
        }
    }

    private static void lowestIf0() {
        Due.sentence("3: [...] else the lowest");
        PaneDesk desk = threeOverOneAnother();
        Due.is("change(3, 3, 0)", desk.change(3, 3, 0), true);
        Due.is("at(6, 6)", desk.at(6, 6), 2);
        Due.is("at(2, 2)", desk.at(2, 2), 2);
        desk.change(2, 1, 0);
        Due.is("below the first, too", desk.at(2, 2), 1);
        Due.is("at(7, 7)", desk.at(7, 7), 3);
    }

    private static void alreadyTheHighestOrLowest() {
        Due.sentence("3: the highest of its siblings if v is not 0, else the lowest (which it is already)");
        PaneDesk desk = threeOverOneAnother();
        desk.make(1, 0, 0, 0, 6, 6, 5);
        Due.is("the highest", desk.change(3, 3, 1), true);
        Due.is("the lowest", desk.change(1, 3, 0), true);
        Due.is("an only child", desk.change(4, 3, 1), true);
        Due.is("an only child", desk.change(4, 3, 0), true);
        Due.is("at(0, 0)", desk.at(0, 0), 4);
        Due.is("at(1, 1)", desk.at(1, 1), 2);
        Due.is("at(2, 2)", desk.at(2, 2), 3);
        Due.is("children of the root", desk.state(0, 5), 3);
    }

    private static void onlyAmongItsSiblings() {
        Due.sentence("3: the highest of its siblings (with its children)");
        PaneDesk desk = threeOverOneAnother();
        desk.make(1, 0, 0, 0, 6, 6, 5);
        desk.make(3, 0, 0, 0, 6, 6, 6);
        desk.change(4, 3, 1);
        Due.is("not above its parent's siblings", desk.at(2, 2), 5);
        desk.change(5, 3, 0);
        Due.is("not below its parent", desk.at(2, 2), 5);
        desk.change(1, 3, 1);
        Due.is("with its children", desk.at(2, 2), 4);
        desk.change(1, 3, 0);
        Due.is("with its children", desk.at(1, 1), 2);
        Due.is("still above their parent", desk.at(0, 0), 4);
    }

    private static void stackingAgainAndAgain() {
        Due.sentence("3: the highest of its siblings if v is not 0, else the lowest (again and again)");
        PaneDesk desk = threeOverOneAnother();
        for (int i = 0; i < 40; i++) {
            int widget = 1 + i % 3;
            Due.is("highest", desk.change(widget, 3, 1), true);
            Due.is("at(2, 2)", desk.at(2, 2), widget);
            Due.is("children of the root", desk.state(0, 5), 3);
        }
        for (int i = 0; i < 40; i++) {
            Due.is("lowest", desk.change(1 + i % 3, 3, 0), true);
            Due.is("children of the root", desk.state(0, 5), 3);
        }
        Due.is("at(2, 2)", desk.at(2, 2), 2);
    }

    private static void notForTheRoot() {
        Due.sentence("(not for the root)");
        for (int v : new int[] {0, 1, -1, Integer.MIN_VALUE, Integer.MAX_VALUE}) {
            refused(0, 3, v);
        }
        PaneDesk desk = new PaneDesk();
        Due.is("the root alone", desk.change(0, 3, 1), false);
        Due.is("the root alone", desk.change(0, 3, 0), false);
        Due.is("at(0, 0)", desk.at(0, 0), 0);
        Due.is("make", desk.make(0, 0, 0, 0, 1, 1, 1), 1);
    }

    private static void restOfTheRoot() {
        Due.sentence("What 0: the colour [...] 1: visible [...] 2: enabled (of the root, too)");
        PaneDesk desk = threeOverOneAnother();
        Due.is("change(0, 0, 9)", desk.change(0, 0, 9), true);
        desk.pump(0);
        Due.is("pixel(31, 15)", desk.pixel(31, 15), 9);
        Due.is("change(0, 2, 0)", desk.change(0, 2, 0), true);
        Due.is("state(3, 3)", desk.state(3, 3), 0);
        desk.pump(0);
        Due.is("pixel(31, 15)", desk.pixel(31, 15), 1);
        Due.is("change(0, 1, 0)", desk.change(0, 1, 0), true);
        Due.is("state(0, 2)", desk.state(0, 2), 0);
        Due.is("at(0, 0)", desk.at(0, 0), -1);
        desk.pump(0);
        Due.is("screen()", desk.screen(), 0);
        refused(0, 0, 16);
        refused(0, 0, -1);
    }

    private static void noSuchWidget() {
        Due.sentence("False likewise (no such widget)");
        for (int what = 0; what < 4; what++) {
            for (int widget : Due.outside(0, 11)) {
                refused(widget, what, 1);
            }
            refused(8, what, 0);
            refused(11, what, 1);
        }
        PaneDesk desk = threeOverOneAnother();
        desk.remove(1);
        for (int what = 0; what < 4; what++) {
            Due.is("one that was taken away", desk.change(1, what, 1), false);
        }
        Due.is("children of the root", desk.state(0, 5), 2);
    }

    private static void anotherWhat() {
        Due.sentence("False likewise (a what that is not 0 .. 3)");
        for (int what : Due.outside(0, 3)) {
            refused(1, what, 0);
            refused(1, what, 1);
        }
    }

    private static void colourNot0To15() {
        Due.sentence("the colour becomes v (0 .. 15) [...] False likewise");
        for (int v : Due.outside(0, 15)) {
            refused(1, 0, v);
        }
    }
}
