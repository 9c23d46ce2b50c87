/** Promise 4: wish. */
public final class Promise04WishTest {
    public static void main(String[] args) {
        PaneDesk desk = new PaneDesk();
        desk.make(0, 0, 1, 1, 2, 2, 2);
        desk.make(1, 0, 3, 4, 2, 2, 2);
        Due.is("wish(1, 5, 6, 7, 8)", desk.wish(1, 5, 6, 7, 8), true);
        Due.rectangle(desk, 1, 5, 6, 7, 8);
        Due.rectangle(desk, 2, 8, 10, 2, 2);
        Due.is("least", desk.wish(1, -40, -40, 1, 1), true);
        Due.rectangle(desk, 1, -40, -40, 1, 1);
        Due.is("greatest", desk.wish(1, 40, 40, 32, 32), true);
        Due.rectangle(desk, 1, 40, 40, 32, 32);
        refused(desk);
        notDrawnBeforePump();
        Due.end();
    }

    private static void refused(PaneDesk desk) {
        int[][] wrong = {
            {0, 0, 0, 32, 16}, {0, 0, 0, 1, 1}, {3, 0, 0, 1, 1}, {12, 0, 0, 1, 1}, {-1, 0, 0, 1, 1},
            {Integer.MAX_VALUE, 0, 0, 1, 1},
            {1, -41, 0, 1, 1}, {1, 41, 0, 1, 1}, {1, 0, -41, 1, 1}, {1, 0, 41, 1, 1},
            {1, 0, 0, 0, 1}, {1, 0, 0, 33, 1}, {1, 0, 0, 1, 0}, {1, 0, 0, 1, 33},
        };
        String before = Due.face(desk);
        for (int[] a : wrong) {
            Due.is(java.util.Arrays.toString(a), desk.wish(a[0], a[1], a[2], a[3], a[4]), false);
        }
        Due.same("refused wish", Due.face(desk), before);
    }

    private static void notDrawnBeforePump() {
        PaneDesk desk = new PaneDesk();
        desk.make(0, 0, 0, 0, 2, 2, 5);
        desk.pump(0);
        desk.wish(1, 4, 4, 2, 2);
        Due.is("pixel(0, 0)", desk.pixel(0, 0), 5);
        desk.pump(0);
        Due.is("pixel(0, 0)", desk.pixel(0, 0), 1);
        Due.is("pixel(5, 5)", desk.pixel(5, 5), 5);
    }
}
