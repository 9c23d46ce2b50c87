/** Promise 17: noted. */
public final class Promise17NotedTest {
    public static void main(String[] args) {
        PaneDesk desk = new PaneDesk();
        desk.make(0, 3, 0, 0, 4, 4, 3);
        desk.make(0, 0, 5, 0, 4, 4, 4);
        Due.post(desk, 4, 0, 0);
        desk.pump(1);
        Due.notes(desk, 1, 0, 81);
        for (int i = 0; i < 15; i++) {
            Due.post(desk, 3, 1, 0);
        }
        desk.pump(15);
        Due.is("noted(-1)", desk.noted(-1), 16);
        Due.is("noted(15)", desk.noted(15), 81);
        Due.is("noted(14)", desk.noted(14), 65);
        Due.post(desk, 0, 6, 1);
        desk.pump(1);
        Due.is("noted(-1)", desk.noted(-1), 17);
        Due.is("noted(0)", desk.noted(0), 34);
        Due.is("noted(1)", desk.noted(1), 65);
        Due.is("noted(15)", desk.noted(15), 65);
        for (int k : new int[] {16, 17, -2, Integer.MAX_VALUE, Integer.MIN_VALUE}) {
            Due.is("noted(" + k + ")", desk.noted(k), 0);
        }
        allCodes();
        manyNotes();
        Due.end();
    }

    private static void allCodes() {
        PaneDesk desk = new PaneDesk();
        desk.make(0, 3, 0, 0, 4, 4, 3);
        Due.click(desk, 0, 0);
        Due.post(desk, 3, 1, 0);
        Due.post(desk, 0, 32, 0);
        desk.pump(16);
        Due.notes(desk, 6, 33, 49, 81, 97, 65, 17);
    }

    private static void manyNotes() {
        PaneDesk desk = new PaneDesk();
        desk.make(0, 1, 0, 0, 4, 4, 3);
        for (int i = 1; i <= 50; i++) {
            Due.post(desk, 0, 1, 1);
            Due.post(desk, 1, 20, 10);
            Due.post(desk, 2, 20, 10);
            desk.pump(16);
            Due.is("noted(-1)", desk.noted(-1), 6 * i - 1);
        }
        int[] latest = {16, 33, 17, 32, 48, 96};
        for (int k = 0; k < 16; k++) {
            Due.is("noted(" + k + ")", desk.noted(k), latest[5 - k % 6]);
        }
    }
}
