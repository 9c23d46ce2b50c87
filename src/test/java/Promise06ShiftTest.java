import java.util.Arrays;

/** Promise 6: shift. */
public final class Promise06ShiftTest {
    public static void main(String[] args) {
        theShift();
        noSuchWidget();
        numbersNotMinus20To20();
        theRootHasOneToo();
        Due.end();
    }

    private static void refused(int... a) {
        String call = "shift" + Arrays.toString(a);
        Twins.changesNothing(call, Twins::lively, desk -> Due.is(call, desk.shift(a[0], a[1], a[2]), false));
    }

    private static PaneDesk oneInTheOther() {
        PaneDesk desk = new PaneDesk();
        desk.make(0, 0, 4, 3, 20, 10, 2);
        desk.make(1, 0, 5, 6, 2, 2, 3);
        desk.make(2, 0, 1, 1, 2, 2, 3);
        return desk;
    }

    private static void theShift() {
        Due.sentence("The shift");
        PaneDesk desk = oneInTheOther();
        Due.is("shift(1, 2, -3)", desk.shift(1, 2, -3), true);
        Due.rectangle(desk, 1, 4, 3, 20, 10);
        Due.rectangle(desk, 2, 7, 12, 2, 2);
        Due.rectangle(desk, 3, 8, 13, 2, 2);
        Due.is("shift(1, 0, 0)", desk.shift(1, 0, 0), true);
        Due.rectangle(desk, 2, 9, 9, 2, 2);
    }

    private static void noSuchWidget() {
        Due.sentence("False likewise (no such widget)");
        for (int widget : Due.outside(0, 11)) {
            refused(widget, 2, 3);
        }
        refused(8, 2, 3);
        refused(11, 2, 3);
        PaneDesk desk = oneInTheOther();
        desk.remove(1);
        Due.is("one that was taken away", desk.shift(1, 0, 0), false);
    }

    private static void numbersNotMinus20To20() {
        Due.sentence("-20 .. 20 each. False likewise.");
        PaneDesk desk = oneInTheOther();
        Due.is("least x", desk.shift(1, -20, 1), true);
        Due.rectangle(desk, 2, 29, 8, 2, 2);
        Due.is("greatest x", desk.shift(1, 20, 1), true);
        Due.rectangle(desk, 2, -11, 8, 2, 2);
        Due.is("least y", desk.shift(1, 1, -20), true);
        Due.rectangle(desk, 2, 8, 29, 2, 2);
        Due.is("greatest y", desk.shift(1, 1, 20), true);
        Due.rectangle(desk, 2, 8, -11, 2, 2);
        for (int number : Due.outside(-20, 20)) {
            refused(1, number, 3);
            refused(1, 3, number);
        }
    }

    private static void theRootHasOneToo() {
        Due.sentence("A widget has [...] a SHIFT (x, y) (the root is a widget)");
        PaneDesk desk = new PaneDesk();
        desk.make(0, 0, 4, 3, 20, 10, 2);
        Due.is("shift(0, 1, 2)", desk.shift(0, 1, 2), true);
        Due.rectangle(desk, 0, 0, 0, 32, 16);
        Due.rectangle(desk, 1, 3, 1, 20, 10);
        refused(0, 21, 0);
        refused(0, 0, -21);
    }
}
