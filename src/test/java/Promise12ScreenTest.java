/** Promise 12: screen. */
public final class Promise12ScreenTest {
    public static void main(String[] args) {
        PaneDesk desk = new PaneDesk();
        Due.is("screen()", desk.screen(), 0);
        desk.pump(0);
        Due.is("all 1", desk.screen(), -238804992);
        desk.change(0, 0, 0);
        desk.make(0, 0, 31, 15, 1, 1, 7);
        desk.pump(0);
        Due.is("the last pixel counts once", desk.screen(), 7);
        desk.wish(1, 30, 15, 1, 1);
        Due.is("as drawn last", desk.screen(), 7);
        desk.pump(0);
        Due.is("the one before 31 times", desk.screen(), 7 * 31);
        desk.wish(1, 31, 14, 1, 1);
        desk.pump(0);
        Due.is("a line before", desk.screen(), sumOf(desk));
        desk.wish(1, 0, 0, 9, 5);
        desk.pump(0);
        Due.is("many", desk.screen(), sumOf(desk));
        Due.is("asking does not change it", desk.screen(), sumOf(desk));
        Due.end();
    }

    private static int sumOf(PaneDesk desk) {
        int sum = 0;
        for (int y = 0; y < 16; y++) {
            for (int x = 0; x < 32; x++) {
                sum = sum * 31 + desk.pixel(x, y);
            }
        }
        return sum;
    }
}
