/** Promise 11: pixel, and how widgets are drawn. */
public final class Promise11PixelTest {
    public static void main(String[] args) {
        outside();
        whenItWasDrawnLast();
        overOneAnother();
        clipped();
        colourNone();
        boxThatIsOn();
        buttonThatIsHeld();
        notAble();
        rimOfTheFocus();
        rimIsOfTheWholeRectangle();
        Due.end();
    }

    private static void pixel(PaneDesk desk, int x, int y, int want) {
        Due.is("pixel(" + x + ", " + y + ")", desk.pixel(x, y), want);
    }

    private static void outside() {
        PaneDesk desk = new PaneDesk();
        desk.pump(0);
        pixel(desk, 0, 0, 1);
        pixel(desk, 31, 15, 1);
        int far = Integer.MAX_VALUE;
        int[][] wrong = {{-1, 0}, {32, 0}, {0, -1}, {0, 16}, {-1, 1}, {far, 0}, {0, far}, {-far, -far}};
        for (int[] a : wrong) {
            pixel(desk, a[0], a[1], -1);
        }
    }

    private static void whenItWasDrawnLast() {
        PaneDesk desk = new PaneDesk();
        desk.make(0, 0, 3, 3, 4, 4, 7);
        pixel(desk, 3, 3, 0);
        desk.pump(0);
        pixel(desk, 3, 3, 7);
        desk.remove(1);
        pixel(desk, 3, 3, 7);
        desk.pump(17);
        pixel(desk, 3, 3, 7);
        desk.pump(0);
        pixel(desk, 3, 3, 1);
    }

    private static void overOneAnother() {
        PaneDesk desk = new PaneDesk();
        desk.make(0, 0, 0, 0, 8, 8, 2);
        desk.make(0, 0, 4, 4, 8, 8, 3);
        desk.make(1, 0, 3, 3, 5, 5, 4);
        desk.pump(0);
        pixel(desk, 0, 0, 2);
        pixel(desk, 3, 3, 4);
        pixel(desk, 4, 4, 3);
        pixel(desk, 11, 11, 3);
        pixel(desk, 12, 11, 1);
        desk.change(1, 3, 1);
        desk.pump(0);
        pixel(desk, 4, 4, 4);
        pixel(desk, 8, 8, 3);
    }

    private static void clipped() {
        PaneDesk desk = new PaneDesk();
        desk.make(0, 0, 10, 5, 6, 4, 2);
        desk.make(1, 0, -2, -2, 32, 3, 3);
        desk.make(2, 0, 0, 0, 4, 32, 4);
        desk.pump(0);
        pixel(desk, 9, 5, 1);
        pixel(desk, 10, 4, 1);
        pixel(desk, 10, 5, 4);
        pixel(desk, 11, 5, 4);
        pixel(desk, 12, 5, 3);
        pixel(desk, 15, 5, 3);
        pixel(desk, 16, 5, 1);
        pixel(desk, 10, 6, 2);
        pixel(desk, 15, 8, 2);
        pixel(desk, 15, 9, 1);
        int before = desk.screen();
        desk.make(1, 0, 6, 0, 4, 4, 9);
        desk.make(1, 0, 0, 4, 4, 4, 9);
        desk.make(1, 0, -4, 0, 4, 4, 9);
        desk.make(0, 0, 32, 0, 4, 4, 9);
        desk.make(0, 0, -4, 16, 4, 4, 9);
        desk.pump(0);
        Due.is("those wholly outside are not drawn", desk.screen(), before);
    }

    private static void colourNone() {
        PaneDesk desk = new PaneDesk();
        desk.make(0, 0, 0, 0, 8, 8, 2);
        desk.make(1, 2, 1, 1, 4, 4, 0);
        desk.make(2, 0, 1, 1, 1, 1, 5);
        Due.click(desk, 1, 1);
        Due.is("on", desk.state(2, 1), 1);
        pixel(desk, 1, 1, 15);
        pixel(desk, 2, 2, 5);
        pixel(desk, 3, 3, 2);
        desk.change(2, 2, 0);
        desk.pump(0);
        pixel(desk, 3, 3, 2);
        pixel(desk, 4, 4, 15);
    }

    private static void boxThatIsOn() {
        PaneDesk desk = new PaneDesk();
        desk.make(0, 2, 0, 0, 4, 4, 3);
        desk.make(0, 2, 5, 0, 4, 4, 12);
        desk.make(0, 2, 10, 0, 4, 4, 8);
        Due.click(desk, 1, 1);
        Due.click(desk, 6, 1);
        Due.click(desk, 11, 1);
        pixel(desk, 1, 1, 11);
        pixel(desk, 6, 1, 4);
        pixel(desk, 11, 1, 0);
        pixel(desk, 10, 0, 15);
        Due.click(desk, 1, 1);
        pixel(desk, 1, 1, 3);
        Due.post(desk, 1, 1, 1);
        desk.pump(1);
        pixel(desk, 1, 1, 3);
    }

    private static void buttonThatIsHeld() {
        PaneDesk desk = new PaneDesk();
        desk.make(0, 1, 0, 0, 4, 4, 3);
        desk.make(0, 0, 5, 0, 4, 4, 3);
        desk.make(0, 3, 10, 0, 4, 4, 3);
        Due.post(desk, 1, 1, 1);
        desk.pump(1);
        pixel(desk, 1, 1, 11);
        Due.post(desk, 0, 6, 1);
        desk.pump(1);
        pixel(desk, 1, 1, 3);
        Due.post(desk, 0, 1, 1);
        desk.pump(1);
        pixel(desk, 1, 1, 11);
        desk.change(1, 2, 0);
        desk.pump(0);
        pixel(desk, 1, 1, 3);
        desk.change(1, 2, 1);
        Due.post(desk, 2, 1, 1);
        desk.pump(1);
        pixel(desk, 1, 1, 3);
        Due.post(desk, 1, 6, 1);
        desk.pump(1);
        pixel(desk, 6, 1, 3);
        Due.post(desk, 1, 11, 1);
        desk.pump(1);
        pixel(desk, 11, 1, 3);
        Due.is("a button is never on", desk.state(1, 1), 0);
    }

    private static void notAble() {
        PaneDesk desk = new PaneDesk();
        desk.make(0, 0, 0, 0, 8, 8, 14);
        desk.make(1, 2, 0, 0, 4, 4, 3);
        desk.make(1, 0, 5, 5, 2, 2, 8);
        Due.click(desk, 1, 1);
        pixel(desk, 1, 1, 11);
        desk.change(1, 2, 0);
        desk.pump(0);
        pixel(desk, 7, 0, 6);
        pixel(desk, 1, 1, 3);
        pixel(desk, 5, 5, 0);
        pixel(desk, 0, 0, 15);
        pixel(desk, 20, 0, 1);
        desk.change(1, 0, 0);
        desk.pump(0);
        pixel(desk, 7, 0, 1);
    }

    private static void rimOfTheFocus() {
        PaneDesk desk = new PaneDesk();
        desk.make(0, 3, 2, 3, 5, 4, 6);
        desk.make(1, 0, 0, 0, 2, 1, 4);
        Due.post(desk, 4, 0, 0);
        desk.pump(1);
        for (int y = 2; y < 8; y++) {
            for (int x = 1; x < 8; x++) {
                boolean inside = x >= 2 && x <= 6 && y >= 3 && y <= 6;
                boolean inner = x >= 3 && x <= 5 && y >= 4 && y <= 5;
                boolean child = y == 3 && (x == 2 || x == 3);
                pixel(desk, x, y, child ? 4 : inner ? 6 : inside ? 15 : 1);
            }
        }
        desk.wish(1, 2, 3, 1, 1);
        desk.change(2, 1, 0);
        desk.pump(0);
        pixel(desk, 2, 3, 15);
        desk.change(1, 1, 0);
        desk.pump(0);
        pixel(desk, 2, 3, 1);
    }

    private static void rimIsOfTheWholeRectangle() {
        PaneDesk desk = new PaneDesk();
        desk.make(0, 0, 4, 4, 6, 6, 2);
        desk.make(1, 3, -1, -1, 7, 9, 6);
        Due.post(desk, 4, 0, 0);
        desk.pump(1);
        pixel(desk, 4, 4, 6);
        pixel(desk, 9, 4, 15);
        pixel(desk, 9, 9, 15);
        pixel(desk, 8, 9, 6);
        pixel(desk, 4, 9, 6);
        pixel(desk, 3, 3, 1);
        pixel(desk, 9, 10, 1);
    }
}
