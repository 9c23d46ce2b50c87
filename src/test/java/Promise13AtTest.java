/** Promise 13: at. */
public final class Promise13AtTest {
    public static void main(String[] args) {
        widgetAtAPixelNow();
        edgesOfARectangle();
        theLastOne();
        alsoIfItsColourIs0OrItIsNotAble();
        onlyIfVisible();
        clippedToAllAncestors();
        refusedOutsideOfTheScreen();
        refusedIfTheRootIsHidden();
        Due.end();
    }

    private static void at(PaneDesk desk, int x, int y, int want) {
        Due.is("at(" + x + ", " + y + ")", desk.at(x, y), want);
    }

    private static void widgetAtAPixelNow() {
        Due.sentence("The widget AT a pixel now");
        PaneDesk desk = new PaneDesk();
        at(desk, 0, 0, 0);
        at(desk, 31, 15, 0);
        desk.make(0, 0, 4, 2, 6, 6, 2);
        at(desk, 4, 2, 1);
        desk.pump(0);
        desk.wish(1, 10, 2, 6, 6);
        at(desk, 4, 2, 0);
        at(desk, 10, 2, 1);
        desk.remove(1);
        at(desk, 10, 2, 0);
    }

    private static void edgesOfARectangle() {
        PaneDesk desk = new PaneDesk();
        desk.make(0, 0, 4, 2, 6, 5, 2);
        for (int y = 1; y <= 7; y++) {
            for (int x = 3; x <= 10; x++) {
                at(desk, x, y, x >= 4 && x <= 9 && y >= 2 && y <= 6 ? 1 : 0);
            }
        }
    }

    private static void theLastOne() {
        Due.sentence("The widget AT a pixel is the last one");
        PaneDesk desk = new PaneDesk();
        desk.make(0, 0, 0, 0, 8, 8, 2);
        desk.make(0, 0, 4, 4, 8, 8, 3);
        desk.make(1, 0, 2, 2, 6, 6, 4);
        at(desk, 1, 1, 1);
        at(desk, 2, 2, 3);
        at(desk, 4, 4, 2);
        desk.change(1, 3, 1);
        at(desk, 4, 4, 3);
        at(desk, 8, 8, 2);
        desk.remove(3);
        at(desk, 4, 4, 1);
    }

    private static void alsoIfItsColourIs0OrItIsNotAble() {
        Due.sentence("the last one that is visible and clipped to an area that has the pixel (nothing more is asked)");
        PaneDesk desk = new PaneDesk();
        desk.make(0, 0, 0, 0, 8, 8, 2);
        desk.make(1, 0, 2, 2, 4, 4, 0);
        at(desk, 3, 3, 2);
        desk.change(2, 2, 0);
        at(desk, 3, 3, 2);
        desk.change(0, 2, 0);
        at(desk, 3, 3, 2);
    }

    private static void onlyIfVisible() {
        Due.sentence("the last one that is visible");
        PaneDesk desk = new PaneDesk();
        desk.make(0, 0, 0, 0, 8, 8, 2);
        desk.make(1, 0, 0, 0, 8, 8, 3);
        desk.make(2, 0, 0, 0, 8, 8, 4);
        at(desk, 3, 3, 3);
        desk.change(3, 1, 0);
        at(desk, 3, 3, 2);
        desk.change(2, 1, 0);
        at(desk, 3, 3, 1);
        desk.change(1, 1, 0);
        at(desk, 3, 3, 0);
    }

    private static void clippedToAllAncestors() {
        Due.sentence("clipped to an area that has the pixel");
        PaneDesk desk = new PaneDesk();
        desk.make(0, 0, 2, 2, 4, 4, 2);
        desk.make(1, 0, 3, 0, 9, 9, 3);
        desk.make(2, 0, -3, 0, 9, 9, 4);
        at(desk, 2, 2, 1);
        at(desk, 4, 2, 1);
        at(desk, 5, 2, 3);
        at(desk, 5, 5, 3);
        at(desk, 6, 5, 0);
        at(desk, 5, 6, 0);
        at(desk, 5, 1, 0);
    }

    private static void refusedOutsideOfTheScreen() {
        Due.sentence("REFUSED if there is none (outside of the screen)");
        PaneDesk desk = new PaneDesk();
        for (int round = 0; round < 2; round++) {
            for (int x : Due.outside(0, 31)) {
                at(desk, x, 0, -1);
                at(desk, x, 15, -1);
                at(desk, x, 16, -1);
            }
            for (int y : Due.outside(0, 15)) {
                at(desk, 0, y, -1);
                at(desk, 31, y, -1);
            }
            desk.make(0, 0, -4, -4, 32, 32, 2);
            desk.make(0, 0, 20, 10, 32, 32, 2);
        }
    }

    private static void refusedIfTheRootIsHidden() {
        Due.sentence("REFUSED if there is none (within the screen)");
        PaneDesk desk = new PaneDesk();
        desk.make(0, 0, 0, 0, 8, 8, 2);
        desk.change(0, 1, 0);
        at(desk, 3, 3, -1);
        at(desk, 20, 10, -1);
        desk.change(0, 1, 1);
        at(desk, 3, 3, 1);
        at(desk, 20, 10, 0);
    }
}
