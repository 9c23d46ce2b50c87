/** Promise 16: special. */
public final class Promise16SpecialTest {
    public static void main(String[] args) {
        PaneDesk desk = new PaneDesk();
        desk.make(0, 1, 0, 0, 4, 4, 3);
        desk.make(0, 3, 5, 0, 4, 4, 4);
        Due.specials(desk, -1, -1, -1);
        for (int what : new int[] {-1, 3, Integer.MAX_VALUE, Integer.MIN_VALUE}) {
            Due.is("special(" + what + ")", desk.special(what), -2);
        }
        Due.post(desk, 1, 1, 1);
        Due.post(desk, 4, 0, 0);
        Due.post(desk, 0, 20, 10);
        desk.pump(16);
        Due.specials(desk, 0, 1, 2);
        staysWhatItWas(desk);
        Due.post(desk, 2, -1, -1);
        desk.pump(16);
        Due.specials(desk, -1, -1, 2);
        Due.end();
    }

    private static void staysWhatItWas(PaneDesk desk) {
        desk.change(0, 1, 0);
        desk.change(0, 2, 0);
        desk.pump(0);
        Due.specials(desk, 0, 1, 2);
        desk.change(0, 1, 1);
        desk.change(0, 2, 1);
        desk.wish(1, 40, 40, 1, 1);
        desk.wish(2, 18, 8, 9, 9);
        desk.pump(0);
        Due.specials(desk, 0, 1, 2);
    }
}
