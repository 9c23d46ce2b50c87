/** Promise 17: noted. */
public final class Promise17NotedTest {
    public static void main(String[] args) {
        kBeforeTheLatest();
        noneSoFarBack();
        fifteenIsTheLast();
        howManyThereWere();
        otherKs();
        allCodes();
        manyNotes();
        Due.end();
    }

    private static void kBeforeTheLatest() {
        Due.sentence("The note k before the latest");
        PaneDesk desk = new PaneDesk();
        desk.make(0, 3, 0, 0, 4, 4, 3);
        desk.make(0, 2, 5, 0, 4, 4, 3);
        Due.post(desk, 1, 1, 1);
        desk.pump(1);
        Due.is("noted(0)", desk.noted(0), 81);
        Due.is("noted(1)", desk.noted(1), 49);
        Due.is("noted(2)", desk.noted(2), 33);
        Due.is("asking changes nothing", desk.noted(0), 81);
    }

    private static void noneSoFarBack() {
        Due.sentence("0 if there is none");
        PaneDesk desk = new PaneDesk();
        desk.make(0, 3, 0, 0, 4, 4, 3);
        Due.post(desk, 4, 0, 0);
        desk.pump(1);
        for (int count = 1; count <= 16; count++) {
            Due.is("noted(-1)", desk.noted(-1), count);
            for (int k = 0; k <= 15; k++) {
                int want = k >= count ? 0 : k == count - 1 ? 81 : 65;
                Due.is("noted(" + k + ") of " + count, desk.noted(k), want);
            }
            Due.post(desk, 3, 1, 0);
            desk.pump(1);
        }
    }

    private static void fifteenIsTheLast() {
        Due.sentence("(k 0 .. 15)");
        PaneDesk desk = new PaneDesk();
        desk.make(0, 3, 0, 0, 4, 4, 3);
        Due.post(desk, 4, 0, 0);
        for (int i = 0; i < 15; i++) {
            Due.post(desk, 3, 1, 0);
        }
        desk.pump(16);
        Due.is("noted(-1)", desk.noted(-1), 16);
        Due.is("noted(15)", desk.noted(15), 81);
        Due.is("noted(16)", desk.noted(16), 0);
        Due.post(desk, 0, 6, 1);
        desk.pump(1);
        Due.is("noted(-1)", desk.noted(-1), 17);
        Due.is("noted(0)", desk.noted(0), 32);
        Due.is("noted(15)", desk.noted(15), 65);
        Due.is("noted(16)", desk.noted(16), 0);
    }

    private static void howManyThereWere() {
        Due.sentence("k = -1: how many there were");
        PaneDesk desk = new PaneDesk();
        Due.is("noted(-1)", desk.noted(-1), 0);
        desk.make(0, 1, 0, 0, 4, 4, 3);
        for (int i = 1; i <= 40; i++) {
            Due.post(desk, 0, i % 2 == 0 ? -1 : 1, 1);
            desk.pump(1);
            Due.is("noted(-1)", desk.noted(-1), i);
        }
        desk.remove(1);
        Due.is("notes stay", desk.noted(-1), 40);
        Due.is("notes stay", desk.noted(0), 17);
    }

    private static void otherKs() {
        Due.sentence("(k 0 .. 15), 0 if there is none");
        PaneDesk desk = new PaneDesk();
        for (int i = 1; i <= 40; i++) {
            Due.post(desk, 0, i % 2 == 0 ? -1 : 1, 1);
            desk.pump(1);
        }
        for (int k : new int[] {-2, 16, 17, 31, 32, 39, 40, Integer.MIN_VALUE, Integer.MAX_VALUE}) {
            Due.is("noted(" + k + ")", desk.noted(k), 0);
        }
    }

    private static void allCodes() {
        Due.sentence("what happens is NOTED (code + the widget)");
        PaneDesk desk = new PaneDesk();
        desk.make(0, 3, 0, 0, 4, 4, 3);
        Due.click(desk, 0, 0);
        Due.post(desk, 3, 1, 0);
        Due.post(desk, 0, 32, 0);
        desk.pump(16);
        Due.notes(desk, 6, 33, 49, 81, 97, 65, 17);
        for (int widget = 2; widget < 12; widget++) {
            desk.make(0, 3, 0, 0, 4, 4, 3);
        }
        Due.click(desk, 0, 0);
        Due.post(desk, 3, 1, 0);
        Due.post(desk, 0, 32, 0);
        desk.pump(16);
        Due.notes(desk, 12, 32 + 11, 48 + 11, 80 + 11, 96 + 11, 64 + 11, 16 + 11);
    }

    private static void manyNotes() {
        Due.sentence("The note k before the latest (k 0 .. 15)");
        PaneDesk desk = new PaneDesk();
        desk.make(0, 1, 0, 0, 4, 4, 3);
        for (int i = 1; i <= 50; i++) {
            Due.post(desk, 0, 1, 1);
            Due.post(desk, 1, 20, 10);
            Due.post(desk, 2, 20, 10);
            desk.pump(16);
            Due.is("noted(-1)", desk.noted(-1), 6 * i - 1);
        }
        int[] latest = {16, 33, 17, 32, 48, 96};
        for (int k = 0; k < 16; k++) {
            Due.is("noted(" + k + ")", desk.noted(k), latest[5 - k % 6]);
        }
    }
}
