/** Promise 15: state. */
public final class Promise15StateTest {
    public static void main(String[] args) {
        PaneDesk desk = new PaneDesk();
        desk.make(0, 0, 0, 0, 20, 10, 2);
        desk.make(1, 3, 0, 0, 4, 4, 3);
        desk.make(1, 2, 5, 0, 4, 4, 4);
        desk.make(3, 1, 1, 1, 2, 2, 5);
        state(desk, 0, 0, 0, 1, 1, -1, 1);
        state(desk, 1, 0, 0, 1, 1, 0, 2);
        state(desk, 3, 0, 0, 1, 1, 1, 1);
        state(desk, 4, 0, 0, 1, 1, 3, 0);
        Due.click(desk, 1, 1);
        Due.post(desk, 3, 8, 0);
        desk.pump(16);
        Due.click(desk, 5, 0);
        state(desk, 2, 8, 0, 1, 1, 1, 0);
        state(desk, 3, 0, 1, 1, 1, 1, 1);
        seenAndAble(desk);
        desk.remove(3);
        state(desk, 1, 0, 0, 1, 1, 0, 1);
        refused(desk);
        Due.end();
    }

    private static void state(PaneDesk desk, int widget, int... want) {
        for (int what = 0; what < want.length; what++) {
            Due.is("state(" + widget + ", " + what + ")", desk.state(widget, what), want[what]);
        }
    }

    private static void seenAndAble(PaneDesk desk) {
        desk.change(1, 1, 0);
        for (int widget = 0; widget < 5; widget++) {
            Due.is("SEEN " + widget, desk.state(widget, 2), widget == 0 ? 1 : 0);
            Due.is("ABLE " + widget, desk.state(widget, 3), 1);
        }
        desk.change(1, 1, 1);
        desk.change(3, 2, 0);
        for (int widget = 0; widget < 5; widget++) {
            Due.is("SEEN " + widget, desk.state(widget, 2), 1);
            Due.is("ABLE " + widget, desk.state(widget, 3), widget < 3 ? 1 : 0);
        }
        desk.change(3, 2, 1);
        desk.wish(3, 40, 40, 4, 4);
        Due.is("SEEN though clipped away", desk.state(3, 2), 1);
    }

    private static void refused(PaneDesk desk) {
        for (int what = 0; what < 6; what++) {
            for (int widget : new int[] {3, 4, 12, -1, Integer.MAX_VALUE, Integer.MIN_VALUE}) {
                Due.is("state(" + widget + ", " + what + ")", desk.state(widget, what), -1);
            }
        }
        for (int what : new int[] {-1, 6, Integer.MAX_VALUE, Integer.MIN_VALUE}) {
            Due.is("state(2, " + what + ")", desk.state(2, what), -1);
        }
    }
}
