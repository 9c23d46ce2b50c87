/** Terms: the events of the pointer and the keys. TAB is in TermsTabTest. */
public final class TermsEventsTest {
    // Inside of the range of the pointer, but outside of the screen, on each of its sides.
    private static final int[][] OUTSIDE = {
        {-1, 1}, {32, 1}, {1, -1}, {1, 16}, {-8, -8}, {39, 23}, {-1, 16}, {32, -1},
    };

    public static void main(String[] args) {
        moveBehindAMoveTakesItsPlace();
        moveBehindAnotherEventDoesNot();
        moveBehindOneThatNoLongerWaitsDoesNot();
        moveBehindOneThatStillWaits();
        moveToAWidget();
        moveOutsideOfTheScreen();
        moveToTheScreensRim();
        moveToTheSameWidget();
        moveWithTheRootHidden();
        moveToOneThatIsNotAble();
        moveSeesWhatIsThereNow();
        pressIsAsMove();
        pressOnNone();
        pressOnOneThatIsNotAble();
        pressOnAPanel();
        pressOnOneThatIsPressedOrHasTheFocus();
        releaseIsAsMove();
        releaseWithoutPressed();
        releaseElsewhere();
        releaseOfOneThatIsNotAble();
        releaseOutsideOfTheScreen();
        releaseOfEachKind();
        releaseAfterLeavingAndComingBack();
        keyWithoutFocus();
        keyForOneThatIsNotSeen();
        keyForOneThatIsNotAble();
        keyForAField();
        valueModulo1000();
        keyForAButtonOrBox();
        oneAfterTheOther();
        Due.end();
    }

    /** A button 1, a box 2, a field 3 and a panel 4 side by side. */
    private static PaneDesk row() {
        PaneDesk desk = new PaneDesk();
        desk.make(0, 1, 0, 0, 4, 4, 3);
        desk.make(0, 2, 5, 0, 4, 4, 4);
        desk.make(0, 3, 10, 0, 4, 4, 5);
        desk.make(0, 0, 15, 0, 4, 4, 6);
        return desk;
    }

    private static void happens(PaneDesk desk, int kind, int x, int y) {
        Due.post(desk, kind, x, y);
        Due.is("pump(1)", desk.pump(1), 1);
    }

    private static void moveBehindAMoveTakesItsPlace() {
        Due.sentence("A MOVE behind a waiting MOVE takes its place.");
        PaneDesk desk = row();
        Due.is("MOVE", desk.post(0, 1, 1), 1);
        Due.is("MOVE behind it", desk.post(0, 6, 1), 1);
        Due.is("and behind that", desk.post(0, 11, 1), 1);
        Due.is("pump(16)", desk.pump(16), 1);
        Due.notes(desk, 1, 35);
        Due.is("PRESS", desk.post(1, 1, 1), 1);
        Due.is("MOVE", desk.post(0, 6, 1), 2);
        Due.is("MOVE behind it", desk.post(0, 30, 10), 2);
        Due.is("RELEASE", desk.post(2, 30, 10), 3);
        Due.is("pump(16)", desk.pump(16), 3);
        Due.notes(desk, 7, 35, 19, 33, 49, 81, 17, 32);
    }

    private static void moveBehindAnotherEventDoesNot() {
        for (int kind = 1; kind <= 4; kind++) {
            PaneDesk desk = row();
            Due.is("MOVE", desk.post(0, 16, 1), 1);
            Due.is("another", desk.post(kind, 9, 9), 2);
            Due.is("MOVE behind it", desk.post(0, 11, 1), 3);
            Due.is("MOVE behind it", desk.post(0, 6, 1), 3);
            Due.is("another behind it", desk.post(kind, 6, 1), 4);
            Due.is("pump(1)", desk.pump(1), 1);
            Due.specials(desk, 4, -1, -1);
            Due.is("pump(2)", desk.pump(2), 2);
            Due.is("OVER", desk.special(0), 2);
        }
    }

    private static void moveBehindOneThatNoLongerWaitsDoesNot() {
        PaneDesk desk = row();
        desk.post(0, 1, 1);
        Due.is("pump(1)", desk.pump(1), 1);
        Due.is("MOVE", desk.post(0, 6, 1), 1);
        Due.is("pump(16)", desk.pump(16), 1);
        Due.notes(desk, 3, 33, 17, 34);
    }

    private static void moveBehindOneThatStillWaits() {
        PaneDesk desk = row();
        desk.post(1, 1, 1);
        desk.post(0, 6, 1);
        Due.is("pump(1)", desk.pump(1), 1);
        Due.is("MOVE", desk.post(0, 11, 1), 1);
        Due.is("pump(0)", desk.pump(0), 0);
        Due.is("MOVE", desk.post(0, 16, 1), 1);
        Due.is("pump(16)", desk.pump(16), 1);
        Due.notes(desk, 5, 33, 49, 81, 17, 36);
    }

    private static void moveToAWidget() {
        Due.sentence("if that is another one than before, LEFT 16 is noted for the old one, ENTERED 32 for the new one");
        PaneDesk desk = row();
        happens(desk, 0, 1, 1);
        Due.specials(desk, 1, -1, -1);
        Due.notes(desk, 1, 33);
        happens(desk, 0, 6, 1);
        Due.specials(desk, 2, -1, -1);
        Due.notes(desk, 3, 33, 17, 34);
        happens(desk, 0, 30, 10);
        Due.specials(desk, 0, -1, -1);
        Due.notes(desk, 5, 17, 34, 18, 32);
    }

    private static void moveOutsideOfTheScreen() {
        Due.sentence("(none outside of the screen) [...] LEFT [...] ENTERED [...] where there is one");
        for (int[] pixel : OUTSIDE) {
            PaneDesk desk = row();
            happens(desk, 0, pixel[0], pixel[1]);
            Due.specials(desk, -1, -1, -1);
            Due.notes(desk, 0, 0);
            happens(desk, 0, 1, 1);
            Due.notes(desk, 1, 33);
            happens(desk, 0, pixel[0], pixel[1]);
            Due.specials(desk, -1, -1, -1);
            Due.notes(desk, 2, 33, 17);
            happens(desk, 0, pixel[1] < 0 ? -1 : 33, 20);
            Due.notes(desk, 2, 33, 17);
        }
        PaneDesk desk = new PaneDesk();
        desk.make(0, 1, -8, -8, 32, 32, 3);
        desk.make(0, 1, 30, 10, 32, 32, 3);
        for (int[] pixel : OUTSIDE) {
            happens(desk, 0, pixel[0], pixel[1]);
            Due.specials(desk, -1, -1, -1);
        }
    }

    private static void moveToTheScreensRim() {
        Due.sentence("OVER becomes the widget AT the pixel");
        int[][] rim = {{0, 0}, {31, 0}, {0, 15}, {31, 15}};
        for (int[] pixel : rim) {
            PaneDesk desk = new PaneDesk();
            happens(desk, 0, pixel[0], pixel[1]);
            Due.specials(desk, 0, -1, -1);
            Due.notes(desk, 1, 32);
        }
        PaneDesk desk = row();
        int[][] rims = {{0, 0, 1}, {3, 3, 1}, {4, 3, 0}, {3, 4, 0}, {5, 0, 2}, {8, 3, 2}, {9, 3, 0}};
        for (int[] pixel : rims) {
            happens(desk, 0, pixel[0], pixel[1]);
            Due.is("OVER", desk.special(0), pixel[2]);
        }
    }

    private static void moveToTheSameWidget() {
        Due.sentence("if that is another one than before");
        PaneDesk desk = row();
        happens(desk, 0, 1, 1);
        happens(desk, 0, 3, 3);
        happens(desk, 0, 1, 1);
        Due.specials(desk, 1, -1, -1);
        Due.notes(desk, 1, 33);
    }

    private static void moveWithTheRootHidden() {
        Due.sentence("OVER becomes the widget AT the pixel [...] where there is one");
        PaneDesk desk = row();
        happens(desk, 0, 1, 1);
        desk.change(0, 1, 0);
        happens(desk, 0, 6, 1);
        Due.specials(desk, -1, -1, -1);
        Due.notes(desk, 2, 33, 17);
    }

    private static void moveToOneThatIsNotAble() {
        Due.sentence("OVER becomes the widget AT the pixel (ABLE or not)");
        PaneDesk desk = row();
        desk.change(1, 2, 0);
        happens(desk, 0, 1, 1);
        Due.specials(desk, 1, -1, -1);
        Due.notes(desk, 1, 33);
    }

    private static void moveSeesWhatIsThereNow() {
        Due.sentence("OVER becomes the widget AT the pixel (as the event before has left it)");
        PaneDesk desk = row();
        desk.effect(1, 1, 2);
        for (int i = 0; i < 2; i++) {
            Due.post(desk, 1, 1, 1);
            Due.post(desk, 2, 1, 1);
            Due.post(desk, 0, 6, 1);
        }
        desk.pump(16);
        Due.notes(desk, 12, 33, 49, 81, 97, 17, 32, 16, 33, 49, 97, 17, 34);
    }

    private static void pressIsAsMove() {
        Due.sentence("PRESS: as MOVE; then [...] it is PRESSED (noted, 48), and if it is no panel it gets the FOCUS.");
        PaneDesk desk = row();
        happens(desk, 1, 1, 1);
        Due.specials(desk, 1, 1, 1);
        Due.notes(desk, 3, 33, 49, 81);
        happens(desk, 1, 6, 1);
        Due.specials(desk, 2, 2, 2);
        Due.notes(desk, 7, 17, 34, 50, 82);
        happens(desk, 1, 11, 1);
        Due.specials(desk, 3, 3, 3);
        Due.notes(desk, 11, 18, 35, 51, 83);
    }

    private static void pressOnNone() {
        Due.sentence("then, if there is a widget OVER (else nothing more)");
        for (int[] pixel : OUTSIDE) {
            PaneDesk desk = row();
            happens(desk, 1, pixel[0], pixel[1]);
            Due.specials(desk, -1, -1, -1);
            Due.notes(desk, 0, 0);
            happens(desk, 1, 6, 1);
            happens(desk, 1, pixel[0], pixel[1]);
            Due.specials(desk, -1, 2, 2);
            Due.notes(desk, 4, 34, 50, 82, 18);
        }
    }

    private static void pressOnOneThatIsNotAble() {
        Due.sentence("then, if there is a widget OVER that is ABLE (else nothing more)");
        int[] disabled = {2, 5, 0};
        for (int widget : disabled) {
            PaneDesk desk = row();
            desk.make(0, 0, 4, 0, 6, 6, 7);
            desk.remove(2);
            desk.make(5, 2, 1, 0, 4, 4, 4);
            happens(desk, 1, 1, 1);
            desk.change(widget, 2, 0);
            happens(desk, 1, 6, 1);
            Due.specials(desk, 2, 1, 1);
            Due.notes(desk, 5, 33, 49, 81, 17, 34);
        }
    }

    private static void pressOnAPanel() {
        Due.sentence("if it is no panel it gets the FOCUS");
        PaneDesk desk = row();
        happens(desk, 1, 16, 1);
        Due.specials(desk, 4, 4, -1);
        Due.notes(desk, 2, 36, 52);
        happens(desk, 1, 1, 1);
        happens(desk, 1, 16, 1);
        Due.specials(desk, 4, 4, 1);
        happens(desk, 1, 30, 10);
        Due.specials(desk, 0, 0, 1);
        Due.notes(desk, 12, 17, 36, 52, 20, 32, 48);
    }

    private static void pressOnOneThatIsPressedOrHasTheFocus() {
        Due.sentence("it is PRESSED (noted, 48) [...] Getting the FOCUS is noted (80) if it had it not.");
        PaneDesk desk = row();
        happens(desk, 1, 1, 1);
        happens(desk, 1, 2, 2);
        Due.specials(desk, 1, 1, 1);
        Due.notes(desk, 4, 33, 49, 81, 49);
        happens(desk, 2, 1, 1);
        happens(desk, 1, 1, 1);
        Due.notes(desk, 6, 49, 97, 49);
    }

    private static void releaseIsAsMove() {
        Due.sentence("RELEASE: as MOVE");
        PaneDesk desk = row();
        happens(desk, 2, 1, 1);
        Due.specials(desk, 1, -1, -1);
        Due.notes(desk, 1, 33);
        happens(desk, 2, 6, 1);
        Due.specials(desk, 2, -1, -1);
        Due.notes(desk, 3, 33, 17, 34);
    }

    private static void releaseWithoutPressed() {
        Due.sentence("then, if there is one PRESSED (else nothing more)");
        PaneDesk desk = row();
        happens(desk, 2, 6, 1);
        happens(desk, 2, 6, 1);
        Due.notes(desk, 1, 34);
        Due.is("not on", desk.state(2, 1), 0);
        Due.click(desk, 6, 1);
        happens(desk, 2, 6, 1);
        Due.notes(desk, 4, 34, 50, 82, 98);
        Due.is("on", desk.state(2, 1), 1);
    }

    private static void releaseElsewhere() {
        Due.sentence("none is; and if it is OVER [...] it ACTS");
        PaneDesk desk = row();
        happens(desk, 1, 6, 1);
        happens(desk, 2, 1, 1);
        Due.specials(desk, 1, -1, 2);
        Due.notes(desk, 5, 34, 50, 82, 18, 33);
        Due.is("not on", desk.state(2, 1), 0);
        happens(desk, 2, 6, 1);
        Due.is("too late", desk.state(2, 1), 0);
        desk.make(2, 0, 1, 1, 2, 2, 7);
        happens(desk, 1, 5, 0);
        happens(desk, 2, 6, 1);
        Due.specials(desk, 5, -1, 2);
        Due.is("its child is not it", desk.state(2, 1), 0);
    }

    private static void releaseOfOneThatIsNotAble() {
        Due.sentence("if it is OVER and ABLE it ACTS");
        for (int widget = 0; widget <= 2; widget += 2) {
            PaneDesk desk = row();
            happens(desk, 1, 6, 1);
            desk.change(widget, 2, 0);
            happens(desk, 2, 6, 1);
            Due.specials(desk, 2, -1, 2);
            Due.notes(desk, 3, 34, 50, 82);
            Due.is("not on", desk.state(2, 1), 0);
        }
    }

    private static void releaseOutsideOfTheScreen() {
        Due.sentence("RELEASE: as MOVE; then, if there is one PRESSED, none is (outside of the screen, too)");
        for (int[] pixel : OUTSIDE) {
            PaneDesk desk = row();
            happens(desk, 1, 6, 1);
            happens(desk, 2, pixel[0], pixel[1]);
            Due.specials(desk, -1, -1, 2);
            Due.notes(desk, 4, 34, 50, 82, 18);
            Due.is("not on", desk.state(2, 1), 0);
        }
    }

    private static void releaseOfEachKind() {
        Due.sentence("if it is OVER and ABLE it ACTS (of whatever kind)");
        PaneDesk desk = row();
        int[][] places = {{1, 1, 1}, {6, 1, 2}, {11, 1, 3}, {16, 1, 4}, {30, 10, 0}};
        for (int[] place : places) {
            Due.click(desk, place[0], place[1]);
            Due.is("noted(0)", desk.noted(0), 96 + place[2]);
            Due.is("PRESSED", desk.special(1), -1);
        }
    }

    private static void releaseAfterLeavingAndComingBack() {
        Due.sentence("if it is OVER (again)");
        PaneDesk desk = row();
        happens(desk, 1, 6, 1);
        happens(desk, 0, -1, -1);
        happens(desk, 2, 6, 1);
        Due.is("on", desk.state(2, 1), 1);
        Due.notes(desk, 6, 34, 50, 82, 18, 34, 98);
    }

    private static void keyWithoutFocus() {
        Due.sentence("KEY k: if there is a FOCUS");
        PaneDesk desk = row();
        for (int k = 0; k <= 9; k++) {
            happens(desk, 3, k, 0);
        }
        Due.notes(desk, 0, 0);
        Due.specials(desk, -1, -1, -1);
    }

    /** A field 5 and a box 6 in the panel 4 of the root; the focus is on one of them. */
    private static PaneDesk below(int focus) {
        PaneDesk desk = row();
        desk.make(4, 3, 0, 0, 2, 2, 7);
        desk.make(4, 2, 2, 2, 2, 2, 7);
        happens(desk, 1, focus == 5 ? 15 : 17, focus == 5 ? 0 : 2);
        Due.specials(desk, focus, focus, focus);
        return desk;
    }

    private static void keyIsLost(int widget, int focus, int what) {
        PaneDesk desk = below(focus);
        desk.change(widget, what, 0);
        happens(desk, 3, 0, 0);
        happens(desk, 3, 7, 0);
        Due.is("value", desk.state(5, 0), 0);
        Due.is("on", desk.state(6, 1), 0);
        Due.is("nothing noted", desk.noted(-1), 3);
        Due.specials(desk, focus, focus, focus);
        desk.change(widget, what, 1);
        happens(desk, 3, 0, 0);
        Due.is("noted", desk.noted(0), focus == 5 ? 64 + 5 : 96 + 6);
    }

    private static void keyForOneThatIsNotSeen() {
        Due.sentence("if there is a FOCUS and it is SEEN");
        for (int focus = 5; focus <= 6; focus++) {
            keyIsLost(focus, focus, 1);
            keyIsLost(4, focus, 1);
            keyIsLost(0, focus, 1);
        }
    }

    private static void keyForOneThatIsNotAble() {
        Due.sentence("if there is a FOCUS and it is [...] ABLE");
        for (int focus = 5; focus <= 6; focus++) {
            keyIsLost(focus, focus, 2);
            keyIsLost(4, focus, 2);
            keyIsLost(0, focus, 2);
        }
    }

    private static void keyForAField() {
        Due.sentence("a field's value becomes (10 * value + k) modulo 1000 (noted, 64)");
        PaneDesk desk = row();
        desk.effect(3, 1, 4);
        happens(desk, 1, 11, 1);
        int[] typed = {0, 4, 7, 1, 9, 0};
        int[] values = {0, 4, 47, 471, 719, 190};
        for (int i = 0; i < typed.length; i++) {
            happens(desk, 3, typed[i], 0);
            Due.is("value after " + typed[i], desk.state(3, 0), values[i]);
            Due.notes(desk, 4 + i, 67);
        }
        Due.is("key 0 does not make it act", desk.state(4, 2), 1);
    }

    private static void valueModulo1000() {
        Due.sentence("(10 * value + k) modulo 1000");
        PaneDesk desk = row();
        happens(desk, 1, 11, 1);
        int[] typed = {9, 9, 9, 9, 1, 0, 0, 0, 0, 1};
        int[] values = {9, 99, 999, 999, 991, 910, 100, 0, 0, 1};
        for (int i = 0; i < typed.length; i++) {
            happens(desk, 3, typed[i], 0);
            Due.is("value after " + typed[i], desk.state(3, 0), values[i]);
        }
    }

    private static void keyForAButtonOrBox() {
        Due.sentence("a button or box ACTS if k is 0");
        for (int widget = 1; widget <= 2; widget++) {
            PaneDesk desk = row();
            desk.effect(widget, 1, 4);
            happens(desk, 1, widget == 1 ? 1 : 6, 1);
            for (int k = 1; k <= 9; k++) {
                happens(desk, 3, k, 0);
            }
            Due.is("keys 1 to 9 do nothing", desk.noted(-1), 3);
            Due.is("SEEN", desk.state(4, 2), 1);
            happens(desk, 3, 0, 0);
            Due.notes(desk, 4, 80 + widget, 96 + widget);
            Due.is("on", desk.state(widget, 1), widget == 2 ? 1 : 0);
            Due.is("its effect", desk.state(4, 2), 0);
            happens(desk, 3, 0, 0);
            Due.is("on", desk.state(widget, 1), 0);
            Due.is("its effect", desk.state(4, 2), 1);
            Due.is("no value", desk.state(widget, 0), 0);
        }
    }

    private static void oneAfterTheOther() {
        Due.sentence("Each is carried out so");
        PaneDesk desk = row();
        desk.effect(1, 2, 3);
        Due.post(desk, 1, 1, 1);
        Due.post(desk, 2, 1, 1);
        Due.post(desk, 1, 11, 1);
        Due.post(desk, 3, 0, 0);
        Due.post(desk, 4, 0, 0);
        Due.post(desk, 4, 0, 0);
        Due.post(desk, 3, 5, 0);
        desk.pump(16);
        Due.specials(desk, 3, -1, 3);
        Due.notes(desk, 10, 33, 49, 81, 97, 17, 35, 97, 82, 83, 67);
    }
}
