/** Promise 9: post. */
public final class Promise09PostTest {
    public static void main(String[] args) {
        counts();
        edges();
        refused();
        full();
        movesTakeTheirPlace();
        Due.end();
    }

    private static void counts() {
        PaneDesk desk = new PaneDesk();
        for (int kind = 0; kind < 5; kind++) {
            Due.is("post(" + kind + ", 1, 1)", desk.post(kind, 1, 1), kind + 1);
        }
        Due.is("nothing happens yet", desk.noted(-1), 0);
        Due.is("pump(2)", desk.pump(2), 2);
        Due.is("post(3, 1, 0)", desk.post(3, 1, 0), 4);
    }

    private static void edges() {
        for (int kind = 0; kind < 3; kind++) {
            PaneDesk desk = new PaneDesk();
            Due.is("least", desk.post(kind, -8, -8), 1);
            desk.pump(1);
            Due.is("greatest", desk.post(kind, 39, 23), 1);
            desk.pump(1);
        }
        PaneDesk desk = new PaneDesk();
        Due.is("post(3, 0, 0)", desk.post(3, 0, 0), 1);
        Due.is("post(3, 9, 0)", desk.post(3, 9, 0), 2);
        Due.is("a key has one number", desk.post(3, 5, 1000), 3);
        Due.is("a tab has none", desk.post(4, 1000, -1000), 4);
    }

    private static void refused() {
        PaneDesk desk = new PaneDesk();
        int[][] wrong = {
            {-1, 0, 0}, {5, 0, 0}, {Integer.MAX_VALUE, 0, 0}, {Integer.MIN_VALUE, 0, 0},
            {0, -9, 0}, {0, 40, 0}, {0, 0, -9}, {0, 0, 24},
            {1, -9, 0}, {1, 40, 0}, {1, 0, -9}, {1, 0, 24},
            {2, -9, 0}, {2, 40, 0}, {2, 0, -9}, {2, 0, 24},
            {3, -1, 0}, {3, 10, 0}, {3, Integer.MIN_VALUE, 0},
        };
        for (int[] a : wrong) {
            Due.is(java.util.Arrays.toString(a), desk.post(a[0], a[1], a[2]), -1);
        }
        Due.is("pump(16)", desk.pump(16), 0);
        desk.post(0, 1, 1);
        Due.is("refused MOVE behind a MOVE", desk.post(0, 40, 1), -1);
        desk.pump(16);
        Due.specials(desk, 0, -1, -1);
    }

    private static void full() {
        PaneDesk desk = new PaneDesk();
        for (int i = 1; i <= 16; i++) {
            Due.is("post(4, 0, 0)", desk.post(4, 0, 0), i);
        }
        for (int kind = 0; kind < 5; kind++) {
            Due.is("post(" + kind + ", 1, 1)", desk.post(kind, 1, 1), -2);
        }
        Due.is("pump(16)", desk.pump(16), 16);
        Due.is("pump(16)", desk.pump(16), 0);
    }

    private static void movesTakeTheirPlace() {
        PaneDesk desk = new PaneDesk();
        desk.make(0, 0, 0, 0, 2, 2, 2);
        desk.make(0, 0, 4, 0, 2, 2, 3);
        Due.is("MOVE", desk.post(0, 0, 0), 1);
        Due.is("MOVE behind it", desk.post(0, 4, 0), 1);
        Due.is("PRESS", desk.post(1, 4, 0), 2);
        Due.is("MOVE behind a PRESS", desk.post(0, 0, 0), 3);
        Due.is("MOVE behind it", desk.post(0, 5, 1), 3);
        Due.is("MOVE behind it", desk.post(0, 10, 10), 3);
        Due.is("pump(16)", desk.pump(16), 3);
        Due.notes(desk, 4, 34, 50, 18, 32);
        Due.is("none waits any more", desk.post(0, 0, 0), 1);
        for (int i = 2; i <= 15; i++) {
            desk.post(4, 0, 0);
        }
        Due.is("sixteenth", desk.post(0, 0, 0), 16);
        Due.is("takes its place though full", desk.post(0, 4, 0), 16);
        Due.is("PRESS", desk.post(1, 4, 0), -2);
        Due.is("refused first", desk.post(0, 40, 0), -1);
        Due.is("pump(16)", desk.pump(16), 16);
        Due.specials(desk, 2, 2, -1);
    }
}
