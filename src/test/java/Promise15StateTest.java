/** Promise 15: state. */
public final class Promise15StateTest {
    public static void main(String[] args) {
        eachWhat();
        valueAndOn();
        parentOfTheRoot();
        howManyChildren();
        refusedIfItIsNotThere();
        refusedForAnotherWhat();
        Due.end();
    }

    private static void state(PaneDesk desk, int widget, int... want) {
        for (int what = 0; what < want.length; what++) {
            Due.is("state(" + widget + ", " + what + ")", desk.state(widget, what), want[what]);
        }
    }

    private static PaneDesk five() {
        PaneDesk desk = new PaneDesk();
        desk.make(0, 0, 0, 0, 20, 10, 2);
        desk.make(1, 3, 0, 0, 4, 4, 3);
        desk.make(1, 2, 5, 0, 4, 4, 4);
        desk.make(3, 1, 1, 1, 2, 2, 5);
        return desk;
    }

    private static void eachWhat() {
        Due.sentence("what 0: its value; 1: whether it is on; 2: SEEN; 3: ABLE; 4: its parent [...]; 5: how many children");
        PaneDesk desk = five();
        state(desk, 0, 0, 0, 1, 1, -1, 1);
        state(desk, 1, 0, 0, 1, 1, 0, 2);
        state(desk, 2, 0, 0, 1, 1, 1, 0);
        state(desk, 3, 0, 0, 1, 1, 1, 1);
        state(desk, 4, 0, 0, 1, 1, 3, 0);
        desk.change(1, 1, 0);
        state(desk, 1, 0, 0, 0, 1, 0, 2);
        state(desk, 4, 0, 0, 0, 1, 3, 0);
        desk.change(3, 2, 0);
        state(desk, 3, 0, 0, 0, 0, 1, 1);
        state(desk, 2, 0, 0, 0, 1, 1, 0);
    }

    private static void valueAndOn() {
        Due.sentence("what 0: its value; 1: whether it is on");
        PaneDesk desk = five();
        Due.click(desk, 1, 1);
        Due.post(desk, 3, 8, 0);
        desk.pump(16);
        Due.click(desk, 5, 0);
        state(desk, 2, 8, 0, 1, 1, 1, 0);
        state(desk, 3, 0, 1, 1, 1, 1, 1);
        Due.click(desk, 5, 0);
        state(desk, 3, 0, 0);
    }

    private static void parentOfTheRoot() {
        Due.sentence("4: its parent (-1 for the root)");
        PaneDesk desk = new PaneDesk();
        Due.is("state(0, 4)", desk.state(0, 4), -1);
        desk.make(0, 0, 0, 0, 1, 1, 1);
        Due.is("state(0, 4)", desk.state(0, 4), -1);
        Due.is("state(1, 4)", desk.state(1, 4), 0);
    }

    private static void howManyChildren() {
        Due.sentence("5: how many children");
        PaneDesk desk = new PaneDesk();
        for (int widget = 1; widget < 12; widget++) {
            Due.is("state(0, 5)", desk.state(0, 5), widget - 1);
            desk.make(0, 0, 0, 0, 1, 1, 1);
        }
        Due.is("state(0, 5)", desk.state(0, 5), 11);
        desk.change(4, 1, 0);
        Due.is("hidden ones count", desk.state(0, 5), 11);
        desk.remove(11);
        Due.is("state(0, 5)", desk.state(0, 5), 10);
        desk.make(5, 0, 0, 0, 1, 1, 1);
        Due.is("grandchildren do not", desk.state(0, 5), 10);
        Due.is("state(5, 5)", desk.state(5, 5), 1);
    }

    private static void refusedIfItIsNotThere() {
        Due.sentence("REFUSED if it is not there");
        PaneDesk desk = five();
        desk.remove(3);
        for (int what = 0; what < 6; what++) {
            for (int widget : Due.outside(0, 11)) {
                Due.is("state(" + widget + ", " + what + ")", desk.state(widget, what), -1);
            }
            for (int widget = 3; widget < 12; widget++) {
                Due.is("state(" + widget + ", " + what + ")", desk.state(widget, what), -1);
            }
        }
    }

    private static void refusedForAnotherWhat() {
        Due.sentence("REFUSED if [...] what is another");
        PaneDesk desk = five();
        for (int widget = 0; widget < 6; widget++) {
            for (int what : Due.outside(0, 5)) {
                Due.is("state(" + widget + ", " + what + ")", desk.state(widget, what), -1);
            }
        }
    }
}
