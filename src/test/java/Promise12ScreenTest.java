/** Promise 12: screen. */
public final class Promise12ScreenTest {
    public static void main(String[] args) {
        fromH0();
        fromTheUpperLeftOneLineByLine();
        asDrawnLast();
        allPixelsCount();
        Due.end();
    }

    private static void fromH0() {
        Due.sentence("h * 31 + colour, from h = 0");
        PaneDesk desk = new PaneDesk();
        Due.is("screen()", desk.screen(), 0);
        Due.is("asking does not change it", desk.screen(), 0);
        desk.pump(0);
        Due.is("all 1", desk.screen(), -238804992);
        Due.is("asking does not change it", desk.screen(), -238804992);
    }

    /** What a single pixel of a colour adds to the sum. */
    private static int share(int x, int y, int colour) {
        int share = colour;
        for (int i = 32 * y + x; i < 511; i++) {
            share *= 31;
        }
        return share;
    }

    private static void fromTheUpperLeftOneLineByLine() {
        Due.sentence("of the pixels of the screen from the upper left one on, line by line");
        PaneDesk desk = new PaneDesk();
        desk.change(0, 0, 0);
        desk.make(0, 0, 31, 15, 1, 1, 7);
        desk.pump(0);
        Due.is("the last pixel counts once", desk.screen(), 7);
        desk.wish(1, 30, 15, 1, 1);
        desk.pump(0);
        Due.is("the one before 31 times", desk.screen(), 7 * 31);
        int[][] places = {{31, 14}, {0, 15}, {0, 0}, {1, 0}, {0, 1}, {31, 0}, {17, 9}};
        for (int[] place : places) {
            desk.wish(1, place[0], place[1], 1, 1);
            desk.pump(0);
            Due.is("screen()", desk.screen(), share(place[0], place[1], 7));
        }
    }

    private static void asDrawnLast() {
        Due.sentence("of the pixels of the screen (as they were drawn last)");
        PaneDesk desk = new PaneDesk();
        desk.change(0, 0, 0);
        desk.make(0, 0, 31, 15, 1, 1, 7);
        desk.pump(0);
        desk.wish(1, 30, 15, 1, 1);
        Due.is("screen()", desk.screen(), 7);
        desk.remove(1);
        desk.pump(17);
        Due.is("screen()", desk.screen(), 7);
        desk.pump(0);
        Due.is("screen()", desk.screen(), 0);
    }

    private static void allPixelsCount() {
        Due.sentence("h * 31 + colour [...] of the pixels of the screen");
        PaneDesk desk = new PaneDesk();
        desk.make(0, 0, 3, 2, 9, 5, 12);
        desk.make(0, 0, 8, 4, 32, 32, 15);
        desk.pump(0);
        int sum = 0;
        for (int y = 0; y < 16; y++) {
            for (int x = 0; x < 32; x++) {
                boolean high = x >= 8 && y >= 4;
                boolean low = x >= 3 && x < 12 && y >= 2 && y < 7;
                sum += share(x, y, high ? 15 : low ? 12 : 1);
            }
        }
        Due.is("screen()", desk.screen(), sum);
    }
}
