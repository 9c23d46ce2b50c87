import java.util.Arrays;

/** Promise 8: effect. What each effect does when its widget acts is in TermsActingTest. */
public final class Promise08EffectTest {
    public static void main(String[] args) {
        theEffect();
        noSuchWidget();
        effectNot0To6();
        targetNot0To11();
        targetThereOrNot();
        oneTakenAwayLosesItsOwn();
        oneTakenAwayWithItsParentLosesItsOwn();
        thoseOfOthersStay();
        theRootMayHaveOne();
        Due.end();
    }

    /** A button 1, a box 2, a field 3 and a panel 4 side by side. */
    private static PaneDesk four() {
        PaneDesk desk = new PaneDesk();
        desk.make(0, 1, 0, 0, 4, 4, 3);
        desk.make(0, 2, 5, 0, 4, 4, 4);
        desk.make(0, 3, 10, 0, 4, 4, 5);
        desk.make(0, 0, 15, 0, 4, 4, 6);
        return desk;
    }

    private static void set(PaneDesk desk, int widget, int effect, int target) {
        Due.is("effect(" + widget + ", " + effect + ", " + target + ")", desk.effect(widget, effect, target), true);
    }

    private static void refused(int... a) {
        String call = "effect" + Arrays.toString(a);
        Twins.changesNothing(call, Twins::lively, desk -> Due.is(call, desk.effect(a[0], a[1], a[2]), false));
    }

    private static void theEffect() {
        Due.sentence("EFFECT 0 .. 6 and TARGET 0 .. 11");
        PaneDesk desk = four();
        set(desk, 1, 1, 4);
        Due.click(desk, 1, 1);
        Due.is("SEEN 4", desk.state(4, 2), 0);
        set(desk, 1, 2, 3);
        Due.click(desk, 1, 1);
        Due.is("the new one", desk.state(3, 3), 0);
        Due.is("instead of the old one", desk.state(4, 2), 0);
        Due.is("setting it does nothing else", desk.noted(-1), 6);
    }

    private static void noSuchWidget() {
        Due.sentence("False likewise (no such widget)");
        for (int widget : Due.outside(0, 11)) {
            refused(widget, 1, 1);
        }
        refused(8, 1, 1);
        refused(11, 1, 1);
        PaneDesk desk = four();
        desk.remove(1);
        Due.is("one that was taken away", desk.effect(1, 1, 4), false);
        desk.make(0, 1, 0, 0, 4, 4, 3);
        Due.click(desk, 1, 1);
        Due.is("SEEN 4", desk.state(4, 2), 1);
    }

    private static void effectNot0To6() {
        Due.sentence("EFFECT 0 .. 6 [...] False likewise");
        PaneDesk desk = four();
        for (int effect = 0; effect <= 6; effect++) {
            set(desk, 1, effect, 4);
        }
        Due.click(desk, 1, 1);
        Due.is("the last one holds", desk.noted(0), 96 + 4);
        for (int effect : Due.outside(0, 6)) {
            refused(2, effect, 1);
        }
    }

    private static void targetNot0To11() {
        Due.sentence("TARGET 0 .. 11 [...] False likewise");
        PaneDesk desk = four();
        set(desk, 1, 1, 0);
        set(desk, 1, 1, 11);
        for (int target : Due.outside(0, 11)) {
            refused(2, 1, target);
        }
    }

    private static void targetThereOrNot() {
        Due.sentence("TARGET 0 .. 11 (there or not)");
        PaneDesk desk = four();
        for (int target = 0; target < 12; target++) {
            set(desk, 1, 1, target);
        }
        for (int widget = 5; widget < 12; widget++) {
            desk.make(0, 0, 2 * widget, 10, 2, 2, 6);
        }
        Due.click(desk, 1, 1);
        Due.is("one that was made later", desk.state(11, 2), 0);
    }

    private static void oneTakenAwayLosesItsOwn() {
        Due.sentence("A widget taken away loses its own");
        PaneDesk desk = four();
        set(desk, 1, 1, 4);
        desk.remove(1);
        Due.is("make", desk.make(0, 1, 0, 0, 4, 4, 3), 1);
        Due.click(desk, 1, 1);
        Due.is("acted", desk.noted(0), 97);
        Due.is("no effect", desk.state(4, 2), 1);
    }

    private static void oneTakenAwayWithItsParentLosesItsOwn() {
        PaneDesk desk = four();
        desk.make(4, 1, 0, 0, 4, 4, 3);
        set(desk, 5, 1, 3);
        desk.remove(4);
        Due.is("make", desk.make(0, 0, 15, 0, 4, 4, 6), 4);
        Due.is("make", desk.make(4, 1, 0, 0, 4, 4, 3), 5);
        Due.click(desk, 15, 1);
        Due.is("acted", desk.noted(0), 101);
        Due.is("no effect", desk.state(3, 2), 1);
    }

    private static void thoseOfOthersStay() {
        Due.sentence("those of others that aim at it stay, also for a later one of that number");
        PaneDesk desk = four();
        set(desk, 1, 1, 4);
        desk.remove(4);
        Due.click(desk, 1, 1);
        Due.is("make", desk.make(0, 0, 15, 0, 4, 4, 6), 4);
        Due.is("shown", desk.state(4, 2), 1);
        Due.click(desk, 1, 1);
        Due.is("hidden by the old effect", desk.state(4, 2), 0);
        desk.remove(4);
        Due.is("a box of that number", desk.make(0, 2, 15, 0, 4, 4, 6), 4);
        set(desk, 2, 6, 4);
        Due.click(desk, 6, 1);
        Due.is("is on", desk.state(4, 1), 1);
        Due.click(desk, 1, 1);
        Due.is("and hidden by the old effect", desk.state(4, 2), 0);
    }

    private static void theRootMayHaveOne() {
        Due.sentence("the EFFECT that the widget has (the root is a widget)");
        PaneDesk desk = four();
        set(desk, 0, 1, 2);
        Due.click(desk, 30, 10);
        Due.notes(desk, 3, 32, 48, 96);
        Due.is("state(2, 2)", desk.state(2, 2), 0);
        refused(0, 7, 0);
        refused(0, 1, 12);
    }
}
