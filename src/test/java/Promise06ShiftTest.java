/** Promise 6: shift. */
public final class Promise06ShiftTest {
    public static void main(String[] args) {
        PaneDesk desk = new PaneDesk();
        desk.make(0, 0, 4, 3, 20, 10, 2);
        desk.make(1, 0, 5, 6, 2, 2, 3);
        desk.make(2, 0, 1, 1, 2, 2, 3);
        Due.is("shift(1, 2, -3)", desk.shift(1, 2, -3), true);
        Due.rectangle(desk, 1, 4, 3, 20, 10);
        Due.rectangle(desk, 2, 7, 12, 2, 2);
        Due.rectangle(desk, 3, 8, 13, 2, 2);
        Due.is("least", desk.shift(1, -20, -20), true);
        Due.rectangle(desk, 2, 29, 29, 2, 2);
        Due.is("greatest", desk.shift(1, 20, 20), true);
        Due.rectangle(desk, 2, -11, -11, 2, 2);
        refused(desk);
        theRootHasOneToo();
        Due.end();
    }

    private static void refused(PaneDesk desk) {
        String before = Due.face(desk);
        int[][] wrong = {
            {4, 0, 0}, {12, 0, 0}, {-1, 0, 0}, {Integer.MAX_VALUE, 0, 0},
            {1, -21, 0}, {1, 21, 0}, {1, 0, -21}, {1, 0, 21}, {1, Integer.MIN_VALUE, 0},
        };
        for (int[] a : wrong) {
            Due.is(java.util.Arrays.toString(a), desk.shift(a[0], a[1], a[2]), false);
        }
        Due.same("refused shift", Due.face(desk), before);
    }

    private static void theRootHasOneToo() {
        PaneDesk desk = new PaneDesk();
        desk.make(0, 0, 4, 3, 20, 10, 2);
        Due.is("shift(0, 1, 2)", desk.shift(0, 1, 2), true);
        Due.rectangle(desk, 0, 0, 0, 32, 16);
        Due.rectangle(desk, 1, 3, 1, 20, 10);
    }
}
