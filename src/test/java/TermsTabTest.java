/** Terms: TAB. */
public final class TermsTabTest {
    public static void main(String[] args) {
        withoutOneFromTheRootOn();
        behindTheOneThatHasIt();
        atTheEndFromTheRootOn();
        inTheOrderOfTheTree();
        lowestChildFirst();
        noPanel();
        onlySeen();
        onlyAble();
        upToThatOneItself();
        nothingIfThereIsNone();
        onFromOneThatIsNotSeenOrAble();
        afterTheFocusWasTakenAway();
        gettingItIsNoted();
        Due.end();
    }

    private static PaneDesk buttons(int count) {
        PaneDesk desk = new PaneDesk();
        for (int widget = 1; widget <= count; widget++) {
            desk.make(0, 1 + widget % 3, 2 * widget, 0, 2, 2, 3);
        }
        return desk;
    }

    private static void tabs(PaneDesk desk, int... order) {
        for (int widget : order) {
            Due.post(desk, 4, 0, 0);
            desk.pump(1);
            Due.specials(desk, -1, -1, widget);
        }
    }

    private static void withoutOneFromTheRootOn() {
        Due.sentence("(or without one) from the root on");
        tabs(buttons(1), 1);
        tabs(buttons(3), 1);
        PaneDesk desk = buttons(3);
        desk.change(3, 3, 0);
        tabs(desk, 3);
    }

    private static void behindTheOneThatHasIt() {
        Due.sentence("the FOCUS goes to the next widget [...] behind the one that has it");
        tabs(buttons(11), 1, 2, 3, 4, 5, 6, 7, 8, 9, 10, 11);
    }

    private static void atTheEndFromTheRootOn() {
        Due.sentence("at the end [...] from the root on");
        tabs(buttons(2), 1, 2, 1, 2, 1);
        tabs(buttons(11), 1, 2, 3, 4, 5, 6, 7, 8, 9, 10, 11, 1, 2);
        PaneDesk desk = buttons(2);
        desk.make(0, 0, 9, 9, 2, 2, 3);
        tabs(desk, 1, 2, 1);
    }

    private static void inTheOrderOfTheTree() {
        Due.sentence("in the order of the tree (each before its children, these from the lowest to the highest)");
        PaneDesk desk = new PaneDesk();
        desk.make(0, 1, 0, 0, 9, 9, 2);
        desk.make(0, 0, 9, 0, 9, 9, 2);
        desk.make(0, 3, 18, 0, 9, 9, 2);
        desk.make(2, 2, 0, 0, 3, 3, 2);
        desk.make(1, 3, 0, 0, 3, 3, 2);
        desk.make(2, 1, 3, 3, 3, 3, 2);
        desk.make(5, 2, 0, 0, 3, 3, 2);
        tabs(desk, 1, 5, 7, 4, 6, 3, 1);
        desk.change(2, 3, 0);
        tabs(desk, 5, 7, 3, 4, 6, 1);
    }

    private static void lowestChildFirst() {
        PaneDesk desk = buttons(3);
        desk.change(3, 3, 0);
        tabs(desk, 3, 1, 2, 3);
        desk.change(1, 3, 1);
        tabs(desk, 2, 1, 3);
    }

    private static void noPanel() {
        Due.sentence("the next widget that is no panel");
        PaneDesk desk = new PaneDesk();
        for (int widget = 1; widget <= 8; widget++) {
            desk.make(0, widget % 4, 2 * widget, 0, 2, 2, 3);
        }
        tabs(desk, 1, 2, 3, 5, 6, 7, 1);
    }

    private static void onlySeen() {
        Due.sentence("the next widget that is [...] SEEN");
        PaneDesk desk = buttons(4);
        desk.make(3, 1, 0, 0, 1, 1, 3);
        desk.change(2, 1, 0);
        tabs(desk, 1, 3, 5, 4, 1);
        desk.change(3, 1, 0);
        tabs(desk, 4, 1);
        desk.change(3, 1, 1);
        desk.change(5, 1, 0);
        tabs(desk, 3, 4);
        desk.wish(1, -40, -40, 1, 1);
        tabs(desk, 1);
    }

    private static void onlyAble() {
        Due.sentence("the next widget that is [...] ABLE");
        PaneDesk desk = buttons(4);
        desk.make(3, 1, 0, 0, 1, 1, 3);
        desk.change(2, 2, 0);
        tabs(desk, 1, 3, 5, 4, 1);
        desk.change(3, 2, 0);
        tabs(desk, 4, 1);
        desk.change(3, 2, 1);
        desk.change(5, 2, 0);
        tabs(desk, 3, 4);
    }

    private static void upToThatOneItself() {
        Due.sentence("up to that one itself");
        PaneDesk desk = buttons(1);
        desk.make(0, 0, 9, 9, 2, 2, 3);
        tabs(desk, 1, 1, 1);
        Due.notes(desk, 1, 81);
        PaneDesk others = buttons(3);
        tabs(others, 1, 2);
        others.change(1, 2, 0);
        others.change(3, 1, 0);
        tabs(others, 2, 2);
        Due.notes(others, 2, 81, 82);
    }

    private static void nothingIfThereIsNone() {
        Due.sentence("nothing changes if there is none");
        PaneDesk alone = new PaneDesk();
        tabs(alone, -1, -1);
        Due.notes(alone, 0, 0);
        PaneDesk panels = new PaneDesk();
        panels.make(0, 0, 0, 0, 2, 2, 3);
        panels.make(1, 0, 0, 0, 2, 2, 3);
        tabs(panels, -1);
        Due.notes(panels, 0, 0);
        PaneDesk empty = buttons(3);
        for (int widget = 1; widget <= 3; widget++) {
            empty.remove(widget);
        }
        tabs(empty, -1);
        Due.notes(empty, 0, 0);
        for (int what = 1; what <= 2; what++) {
            PaneDesk desk = buttons(2);
            desk.change(0, what, 0);
            tabs(desk, -1);
            Due.notes(desk, 0, 0);
            desk.change(0, what, 1);
            tabs(desk, 1);
            desk.change(1, what, 0);
            desk.change(2, what, 0);
            tabs(desk, 1, 1);
            desk.change(0, what, 0);
            tabs(desk, 1);
            Due.notes(desk, 1, 81);
        }
    }

    private static void onFromOneThatIsNotSeenOrAble() {
        Due.sentence("behind the one that has it (SEEN and ABLE or not)");
        for (int what = 1; what <= 2; what++) {
            PaneDesk desk = buttons(4);
            tabs(desk, 1, 2);
            desk.change(2, what, 0);
            tabs(desk, 3, 4, 1, 3);
            desk.change(3, what, 0);
            desk.change(4, what, 0);
            tabs(desk, 1, 1);
        }
    }

    private static void afterTheFocusWasTakenAway() {
        Due.sentence("A widget that is taken away is not [...] FOCUS any more (so TAB is without one)");
        PaneDesk desk = buttons(4);
        tabs(desk, 1, 2, 3);
        desk.remove(3);
        tabs(desk, 1, 2, 4);
    }

    private static void gettingItIsNoted() {
        Due.sentence("Getting the FOCUS is noted (80) if it had it not.");
        PaneDesk desk = buttons(2);
        tabs(desk, 1, 2, 1);
        Due.notes(desk, 3, 81, 82, 81);
        desk.remove(2);
        tabs(desk, 1);
        Due.notes(desk, 3, 81, 82, 81);
    }
}
