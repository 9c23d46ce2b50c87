/** Promise 8: effect, and what each effect does when its widget acts. */
public final class Promise08EffectTest {
    public static void main(String[] args) {
        refused();
        none();
        visibility();
        enabling();
        raising();
        shifting();
        shiftingWraps();
        shiftingOneAlone();
        focusing();
        actingInTurn();
        actingOnlyOnce();
        rootAsTarget();
        rootAsActor();
        targetThatIsNotThere();
        effectsOfOthersStay();
        ownEffectIsLost();
        Due.end();
    }

    /** A button 1, a box 2, a field 3 and a panel 4 side by side. */
    private static PaneDesk four() {
        PaneDesk desk = new PaneDesk();
        desk.make(0, 1, 0, 0, 4, 4, 3);
        desk.make(0, 2, 5, 0, 4, 4, 4);
        desk.make(0, 3, 10, 0, 4, 4, 5);
        desk.make(0, 0, 15, 0, 4, 4, 6);
        return desk;
    }

    private static void set(PaneDesk desk, int widget, int effect, int target) {
        Due.is("effect(" + widget + ", " + effect + ", " + target + ")", desk.effect(widget, effect, target), true);
    }

    private static void refused() {
        PaneDesk desk = four();
        set(desk, 1, 1, 4);
        int[][] wrong = {
            {5, 0, 0}, {12, 0, 0}, {-1, 0, 0}, {Integer.MAX_VALUE, 0, 0},
            {1, -1, 0}, {1, 7, 0}, {1, 2, -1}, {1, 2, 12}, {1, 2, Integer.MIN_VALUE},
        };
        for (int[] a : wrong) {
            Due.is(java.util.Arrays.toString(a), desk.effect(a[0], a[1], a[2]), false);
        }
        Due.click(desk, 1, 1);
        Due.is("the old effect holds", desk.state(4, 2), 0);
        Due.is("and no other", desk.state(4, 3), 1);
    }

    private static void none() {
        PaneDesk desk = four();
        set(desk, 1, 1, 4);
        set(desk, 1, 0, 4);
        Due.click(desk, 1, 1);
        Due.notes(desk, 4, 33, 49, 81, 97);
        Due.is("state(4, 2)", desk.state(4, 2), 1);
        Due.is("state(4, 3)", desk.state(4, 3), 1);
    }

    private static void visibility() {
        PaneDesk desk = four();
        set(desk, 1, 1, 4);
        Due.click(desk, 1, 1);
        Due.is("hidden", desk.state(4, 2), 0);
        Due.is("pixel(16, 1)", desk.pixel(16, 1), 1);
        Due.click(desk, 1, 1);
        Due.is("shown", desk.state(4, 2), 1);
        Due.is("pixel(16, 1)", desk.pixel(16, 1), 6);
        set(desk, 1, 1, 1);
        Due.click(desk, 1, 1);
        Due.is("itself hidden", desk.state(1, 2), 0);
        Due.specials(desk, 1, -1, 1);
    }

    private static void enabling() {
        PaneDesk desk = four();
        set(desk, 1, 2, 4);
        Due.click(desk, 1, 1);
        Due.is("disabled", desk.state(4, 3), 0);
        Due.is("still seen", desk.state(4, 2), 1);
        Due.click(desk, 1, 1);
        Due.is("enabled", desk.state(4, 3), 1);
    }

    private static void raising() {
        PaneDesk desk = four();
        desk.wish(3, 16, 1, 4, 4);
        Due.is("at(16, 1)", desk.at(16, 1), 4);
        set(desk, 1, 3, 3);
        Due.click(desk, 1, 1);
        Due.is("at(16, 1)", desk.at(16, 1), 3);
        for (int i = 0; i < 20; i++) {
            Due.click(desk, 1, 1);
            Due.is("at(16, 1)", desk.at(16, 1), 3);
            Due.is("children of the root", desk.state(0, 5), 4);
        }
    }

    private static void shifting() {
        PaneDesk desk = four();
        desk.make(4, 0, 1, 1, 2, 2, 7);
        desk.shift(4, 3, -5);
        set(desk, 1, 4, 4);
        Due.click(desk, 1, 1);
        Due.rectangle(desk, 5, 15 + 1 - 4, 1 + 4, 2, 2);
        Due.rectangle(desk, 4, 15, 0, 4, 4);
    }

    private static void shiftingWraps() {
        PaneDesk desk = four();
        desk.make(4, 0, 1, 1, 2, 2, 7);
        desk.shift(4, 19, 20);
        set(desk, 1, 4, 4);
        Due.click(desk, 1, 1);
        Due.rectangle(desk, 5, 16 - 20, 1 + 20, 2, 2);
        Due.click(desk, 1, 1);
        Due.rectangle(desk, 5, 16 + 20, 1 + 19, 2, 2);
    }

    private static void shiftingOneAlone() {
        PaneDesk desk = new PaneDesk();
        for (int widget = 1; widget <= 5; widget++) {
            desk.make(0, 1, 0, 0, 4, 4, 3);
        }
        for (int widget = 1; widget <= 5; widget++) {
            desk.make(widget, 3, 4, 4, 1, 1, 3);
        }
        set(desk, 5, 4, 3);
        Due.click(desk, 0, 0);
        for (int widget = 1; widget <= 5; widget++) {
            int place = widget == 3 ? 3 : 4;
            Due.rectangle(desk, widget + 5, place, place, 1, 1);
        }
    }

    private static void focusing() {
        PaneDesk desk = four();
        set(desk, 1, 5, 3);
        Due.click(desk, 1, 1);
        Due.specials(desk, 1, -1, 3);
        Due.notes(desk, 5, 33, 49, 81, 97, 83);
        set(desk, 1, 5, 4);
        Due.click(desk, 1, 1);
        Due.specials(desk, 1, -1, 1);
        set(desk, 1, 5, 1);
        Due.click(desk, 1, 1);
        Due.notes(desk, 10, 97, 49, 97);
        desk.change(2, 1, 0);
        desk.change(2, 2, 0);
        set(desk, 1, 5, 2);
        Due.click(desk, 1, 1);
        Due.specials(desk, 1, -1, 2);
        Due.notes(desk, 13, 49, 97, 82);
    }

    private static void actingInTurn() {
        PaneDesk desk = four();
        desk.change(2, 1, 0);
        desk.change(2, 2, 0);
        set(desk, 1, 6, 2);
        set(desk, 2, 6, 4);
        set(desk, 4, 6, 3);
        set(desk, 3, 2, 1);
        Due.click(desk, 1, 1);
        Due.notes(desk, 7, 33, 49, 81, 97, 98, 100, 99);
        Due.is("box is on", desk.state(2, 1), 1);
        Due.is("disabled by the last", desk.state(1, 3), 0);
        Due.specials(desk, 1, -1, 1);
    }

    private static void actingOnlyOnce() {
        PaneDesk desk = four();
        set(desk, 1, 6, 1);
        Due.click(desk, 1, 1);
        Due.notes(desk, 4, 33, 49, 81, 97);
        set(desk, 1, 6, 2);
        set(desk, 2, 6, 3);
        set(desk, 3, 6, 2);
        Due.click(desk, 1, 1);
        Due.notes(desk, 8, 97, 49, 97, 98, 99);
        Due.is("box is on", desk.state(2, 1), 1);
        Due.click(desk, 1, 1);
        Due.notes(desk, 12, 99, 49, 97, 98, 99);
        Due.is("box is off, by the next event", desk.state(2, 1), 0);
        chainOfAll();
    }

    private static void chainOfAll() {
        PaneDesk desk = new PaneDesk();
        for (int widget = 1; widget < 12; widget++) {
            desk.make(0, 2, widget, 0, 1, 1, 3);
        }
        for (int widget = 0; widget < 12; widget++) {
            set(desk, widget, 6, (widget + 1) % 12);
        }
        Due.click(desk, 5, 0);
        Due.notes(desk, 15, 85, 101, 102, 103, 104, 105, 106, 107, 96, 97, 98, 99, 100);
        for (int widget = 1; widget < 12; widget++) {
            Due.is("state(" + widget + ", 1)", desk.state(widget, 1), 1);
        }
    }

    private static void rootAsTarget() {
        PaneDesk desk = four();
        set(desk, 1, 3, 0);
        Due.click(desk, 1, 1);
        Due.is("at(1, 1)", desk.at(1, 1), 1);
        set(desk, 1, 5, 0);
        Due.click(desk, 1, 1);
        Due.specials(desk, 1, -1, 1);
        set(desk, 1, 4, 0);
        Due.click(desk, 1, 1);
        Due.rectangle(desk, 1, -1, -1, 4, 4);
        Due.rectangle(desk, 0, 0, 0, 32, 16);
        set(desk, 1, 2, 0);
        Due.click(desk, 1, 1);
        Due.is("state(0, 3)", desk.state(0, 3), 0);
        desk.change(0, 2, 1);
        set(desk, 1, 1, 0);
        Due.click(desk, 1, 1);
        Due.is("state(0, 2)", desk.state(0, 2), 0);
        Due.is("screen()", desk.screen(), 0);
    }

    private static void rootAsActor() {
        PaneDesk desk = four();
        set(desk, 0, 1, 2);
        Due.click(desk, 30, 10);
        Due.notes(desk, 3, 32, 48, 96);
        Due.is("state(2, 2)", desk.state(2, 2), 0);
    }

    private static void targetThatIsNotThere() {
        for (int effect = 1; effect <= 6; effect++) {
            PaneDesk desk = four();
            set(desk, 1, effect, 11);
            Due.click(desk, 1, 1);
            Due.notes(desk, 4, 33, 49, 81, 97);
            Due.specials(desk, 1, -1, 1);
            Due.is("make after it", desk.make(0, 0, 0, 0, 1, 1, 1), 5);
        }
    }

    private static void effectsOfOthersStay() {
        PaneDesk desk = four();
        set(desk, 1, 1, 4);
        desk.remove(4);
        Due.click(desk, 1, 1);
        Due.is("make", desk.make(0, 0, 15, 0, 4, 4, 6), 4);
        Due.is("shown", desk.state(4, 2), 1);
        Due.click(desk, 1, 1);
        Due.is("hidden by the old effect", desk.state(4, 2), 0);
    }

    private static void ownEffectIsLost() {
        PaneDesk desk = four();
        set(desk, 1, 1, 4);
        desk.remove(1);
        Due.is("make", desk.make(0, 1, 0, 0, 4, 4, 3), 1);
        Due.click(desk, 1, 1);
        Due.is("acted", desk.noted(0), 97);
        Due.is("no effect", desk.state(4, 2), 1);
    }
}
