/** Promise 1: the root alone; the screen all 0; nothing noted. */
public final class Promise01NewObjectTest {
    public static void main(String[] args) {
        Due.is("REFUSED", PaneDesk.REFUSED, -1);
        Due.is("FULL", PaneDesk.FULL, -2);
        PaneDesk desk = new PaneDesk();
        screenIsEmpty(desk);
        rootIsAsSaid(desk);
        for (int widget = 1; widget < 12; widget++) {
            Due.is("state(" + widget + ", 0)", desk.state(widget, 0), -1);
            Due.is("rectangle(" + widget + ", 0)", desk.rectangle(widget, 0), -1000);
        }
        Due.specials(desk, -1, -1, -1);
        for (int k = -1; k < 16; k++) {
            Due.is("noted(" + k + ")", desk.noted(k), 0);
        }
        nothingWaits(desk);
        Due.is("pixel(31, 15) after pump", desk.pixel(31, 15), 1);
        Due.notes(desk, 0);
        Due.end();
    }

    private static void screenIsEmpty(PaneDesk desk) {
        for (int y = 0; y < 16; y++) {
            for (int x = 0; x < 32; x++) {
                Due.is("pixel(" + x + ", " + y + ")", desk.pixel(x, y), 0);
            }
        }
        Due.is("screen()", desk.screen(), 0);
    }

    private static void rootIsAsSaid(PaneDesk desk) {
        Due.rectangle(desk, 0, 0, 0, 32, 16);
        int[] want = {0, 0, 1, 1, -1, 0};
        for (int what = 0; what < want.length; what++) {
            Due.is("state(0, " + what + ")", desk.state(0, what), want[what]);
        }
        Due.is("at(31, 15)", desk.at(31, 15), 0);
    }

    private static void nothingWaits(PaneDesk desk) {
        Due.is("pump(16)", desk.pump(16), 0);
    }
}
