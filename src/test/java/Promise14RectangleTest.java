/** Promise 14: rectangle. */
public final class Promise14RectangleTest {
    public static void main(String[] args) {
        PaneDesk desk = new PaneDesk();
        Due.rectangle(desk, 0, 0, 0, 32, 16);
        desk.make(0, 0, 30, -5, 7, 9, 2);
        Due.rectangle(desk, 1, 30, -5, 7, 9);
        desk.make(1, 0, 40, 40, 32, 1, 2);
        Due.rectangle(desk, 2, 70, 35, 32, 1);
        notThere(desk);
        hidden(desk);
        hiddenInALine();
        hiddenBesideOthers();
        Due.end();
    }

    private static void notThere(PaneDesk desk) {
        for (int what = 0; what < 4; what++) {
            for (int widget : new int[] {3, 11, 12, -1, Integer.MAX_VALUE, Integer.MIN_VALUE}) {
                Due.is("rectangle(" + widget + ", " + what + ")", desk.rectangle(widget, what), -1000);
            }
        }
        for (int what : new int[] {-1, 4, Integer.MAX_VALUE, Integer.MIN_VALUE}) {
            Due.is("rectangle(1, " + what + ")", desk.rectangle(1, what), -1000);
        }
        desk.make(2, 0, 0, 0, 1, 1, 1);
        desk.remove(3);
        Due.is("rectangle(3, 0)", desk.rectangle(3, 0), -1000);
    }

    private static void hidden(PaneDesk desk) {
        desk.change(1, 1, 0);
        desk.shift(0, 2, 3);
        Due.rectangle(desk, 1, 28, -8, 7, 9);
        Due.rectangle(desk, 2, 68, 32, 32, 1);
    }

    private static void hiddenBesideOthers() {
        PaneDesk desk = new PaneDesk();
        for (int widget = 1; widget < 12; widget++) {
            desk.make(0, 0, 0, 0, 2, 2, 3);
        }
        desk.arrange(0, 1, 0, 0);
        for (int hidden = 1; hidden < 12; hidden++) {
            // The hidden one is placed last, so that the others' rectangles stand already.
            desk.change(hidden, 3, 1);
            desk.change(hidden, 1, 0);
            for (int widget = 1; widget < 12; widget++) {
                int before = widget > hidden ? widget - hidden - 1 : 11 - hidden + widget - 1;
                Due.rectangle(desk, widget, widget == hidden ? 0 : 2 * before, 0, 2, widget == hidden ? 2 : 16);
            }
            desk.change(hidden, 1, 1);
        }
    }

    private static void hiddenInALine() {
        for (int layout = 1; layout <= 2; layout++) {
            PaneDesk desk = new PaneDesk();
            desk.make(0, 0, 3, 2, 20, 10, 2);
            desk.make(1, 0, 5, 5, 2, 2, 3);
            desk.make(1, 0, 5, 5, 4, 3, 4);
            desk.make(3, 0, 1, 1, 2, 2, 5);
            desk.arrange(1, layout, 1, 0);
            desk.arrange(3, 0, 0, 2);
            desk.shift(1, 7, -6);
            desk.change(3, 1, 0);
            Due.rectangle(desk, 3, 3, 2, 4, 3);
            Due.rectangle(desk, 4, 4, 3, 2, 2);
            desk.change(3, 1, 1);
            Due.is("it stands in line again", desk.rectangle(3, layout - 1), layout == 1 ? -1 : 11);
        }
    }
}
