/** Promise 11: pixel. How widgets are drawn is in TermsDrawingTest. */
public final class Promise11PixelTest {
    public static void main(String[] args) {
        cornersOfTheScreen();
        outsideOfTheScreen();
        whenItWasDrawnLast();
        Due.end();
    }

    private static void pixel(PaneDesk desk, int x, int y, int want) {
        Due.is("pixel(" + x + ", " + y + ")", desk.pixel(x, y), want);
    }

    private static void cornersOfTheScreen() {
        Due.sentence("THE SCREEN has 32 x 16 pixels");
        PaneDesk desk = new PaneDesk();
        desk.make(0, 0, 0, 0, 1, 1, 2);
        desk.make(0, 0, 31, 0, 1, 1, 3);
        desk.make(0, 0, 0, 15, 1, 1, 4);
        desk.make(0, 0, 31, 15, 1, 1, 5);
        desk.make(0, 0, 17, 9, 1, 1, 6);
        desk.pump(0);
        pixel(desk, 0, 0, 2);
        pixel(desk, 31, 0, 3);
        pixel(desk, 0, 15, 4);
        pixel(desk, 31, 15, 5);
        pixel(desk, 17, 9, 6);
        pixel(desk, 9, 15, 1);
        pixel(desk, 16, 9, 1);
        pixel(desk, 18, 9, 1);
        pixel(desk, 17, 8, 1);
        pixel(desk, 17, 10, 1);
    }

    private static void outsideOfTheScreen() {
        Due.sentence("REFUSED outside of the screen");
        PaneDesk desk = new PaneDesk();
        for (int drawn = 0; drawn < 2; drawn++) {
            for (int x : Due.outside(0, 31)) {
                pixel(desk, x, 0, -1);
                pixel(desk, x, 15, -1);
                pixel(desk, x, 16, -1);
                pixel(desk, x, -1, -1);
            }
            for (int y : Due.outside(0, 15)) {
                pixel(desk, 0, y, -1);
                pixel(desk, 31, y, -1);
            }
            desk.pump(0);
        }
    }

    private static void whenItWasDrawnLast() {
        Due.sentence("The colour that the pixel had when it was drawn last");
        PaneDesk desk = new PaneDesk();
        desk.make(0, 0, 3, 3, 4, 4, 7);
        pixel(desk, 3, 3, 0);
        desk.pump(0);
        pixel(desk, 3, 3, 7);
        desk.change(1, 0, 9);
        pixel(desk, 3, 3, 7);
        desk.remove(1);
        pixel(desk, 3, 3, 7);
        desk.pump(17);
        pixel(desk, 3, 3, 7);
        desk.pump(-1);
        pixel(desk, 3, 3, 7);
        desk.pump(0);
        pixel(desk, 3, 3, 1);
    }
}
