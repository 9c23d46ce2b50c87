/** Terms: clipping and drawing. */
public final class TermsDrawingTest {
    public static void main(String[] args) {
        zeroAtFirst();
        overOneAnother();
        clippedToItsParent();
        clippedToAllItsAncestors();
        clippedAwayWholly();
        clippedToTheScreen();
        colour0();
        boxThatIsOn();
        boxThatIsPressed();
        buttonPressedAndOver();
        otherKindsPressedAndOver();
        notAbleLowestThreeBits();
        exchangedBeforeNotAble();
        colourThatBecomes0();
        rimOfTheFocus();
        rimOfSmallOnes();
        rimAlsoIfItsColourIs0();
        rimThoughNotAble();
        rimThatIsClipped();
        rimUnderChildren();
        rimOfOneThatIsNotSeen();
        Due.end();
    }

    private static void pixel(PaneDesk desk, int x, int y, int want) {
        Due.is("pixel(" + x + ", " + y + ")", desk.pixel(x, y), want);
    }

    private static void focusOn(PaneDesk desk, int widget) {
        for (int i = 0; i < 12 && desk.special(2) != widget; i++) {
            Due.post(desk, 4, 0, 0);
            desk.pump(1);
        }
        Due.is("FOCUS", desk.special(2), widget);
    }

    private static void zeroAtFirst() {
        Due.sentence("a COLOUR 0 .. 15 each, 0 at first");
        PaneDesk desk = new PaneDesk();
        desk.make(0, 0, 0, 0, 32, 16, 9);
        for (int x = 0; x < 32; x++) {
            pixel(desk, x, x / 2, 0);
        }
        Due.is("screen()", desk.screen(), 0);
    }

    private static void overOneAnother() {
        Due.sentence("from the root on each widget that is visible is drawn, then its children from the lowest to the highest");
        PaneDesk desk = new PaneDesk();
        desk.make(0, 0, 0, 0, 8, 8, 2);
        desk.make(0, 0, 4, 4, 8, 8, 3);
        desk.make(1, 0, 3, 3, 5, 5, 4);
        desk.pump(0);
        pixel(desk, 0, 0, 2);
        pixel(desk, 3, 3, 4);
        pixel(desk, 4, 4, 3);
        pixel(desk, 11, 11, 3);
        pixel(desk, 12, 11, 1);
        desk.change(1, 3, 1);
        desk.pump(0);
        pixel(desk, 4, 4, 4);
        pixel(desk, 8, 8, 3);
        desk.change(3, 1, 0);
        desk.pump(0);
        pixel(desk, 4, 4, 2);
        desk.change(1, 1, 0);
        desk.pump(0);
        pixel(desk, 4, 4, 3);
        pixel(desk, 3, 3, 1);
    }

    private static void clippedToItsParent() {
        Due.sentence("A widget is CLIPPED to its rectangle, its parent's");
        PaneDesk desk = new PaneDesk();
        desk.make(0, 0, 10, 5, 6, 4, 2);
        desk.make(1, 0, -2, -2, 32, 32, 3);
        desk.pump(0);
        for (int x = 9; x <= 16; x++) {
            for (int y = 4; y <= 9; y++) {
                boolean inside = x >= 10 && x <= 15 && y >= 5 && y <= 8;
                pixel(desk, x, y, inside ? 3 : 1);
            }
        }
    }

    private static void clippedToAllItsAncestors() {
        Due.sentence("and those of all its ancestors");
        PaneDesk desk = new PaneDesk();
        desk.make(0, 0, 10, 5, 6, 4, 2);
        desk.make(1, 0, 2, 2, 32, 32, 3);
        desk.make(2, 0, -32, -32, 32, 32, 4);
        desk.make(2, 0, -2, -2, 32, 32, 5);
        desk.make(4, 0, -4, -4, 32, 32, 6);
        desk.pump(0);
        for (int x = 9; x <= 16; x++) {
            for (int y = 4; y <= 9; y++) {
                boolean inFirst = x >= 10 && x <= 15 && y >= 5 && y <= 8;
                boolean inSecond = inFirst && x >= 12 && y >= 7;
                pixel(desk, x, y, inSecond ? 6 : inFirst ? 2 : 1);
                Due.is("at(" + x + ", " + y + ")", desk.at(x, y), inSecond ? 5 : inFirst ? 1 : 0);
            }
        }
    }

    private static void clippedAwayWholly() {
        Due.sentence("A pixel that is within what it is clipped to (there may be none)");
        PaneDesk desk = new PaneDesk();
        desk.make(0, 0, 10, 5, 6, 4, 2);
        desk.pump(0);
        int before = desk.screen();
        int[][] beside = {{6, 0}, {0, 4}, {-4, 0}, {0, -4}, {6, 4}, {-4, -4}, {40, 40}, {-40, -40}};
        for (int[] place : beside) {
            desk.make(1, 3, place[0], place[1], 4, 4, 9);
            desk.make(2, 3, -place[0], -place[1], 4, 4, 9);
            focusOn(desk, 2);
            Due.is("screen()", desk.screen(), before);
            desk.remove(2);
        }
        desk.make(1, 0, 5, 3, 4, 4, 9);
        desk.pump(0);
        pixel(desk, 15, 8, 9);
        desk.wish(2, -3, -3, 4, 4);
        desk.pump(0);
        pixel(desk, 10, 5, 9);
        pixel(desk, 11, 5, 2);
    }

    private static void clippedToTheScreen() {
        PaneDesk desk = new PaneDesk();
        desk.make(0, 0, -31, -31, 32, 32, 2);
        desk.make(0, 0, 31, 15, 32, 32, 3);
        desk.make(0, 0, 32, 0, 4, 4, 4);
        desk.make(0, 0, 0, 16, 4, 4, 5);
        desk.make(0, 0, -4, 1, 4, 4, 6);
        desk.pump(0);
        pixel(desk, 0, 0, 2);
        pixel(desk, 1, 0, 1);
        pixel(desk, 0, 1, 1);
        pixel(desk, 31, 15, 3);
        pixel(desk, 30, 15, 1);
        pixel(desk, 31, 14, 1);
        pixel(desk, 31, 0, 1);
        pixel(desk, 0, 15, 1);
    }

    private static void colour0() {
        Due.sentence("becomes its colour, if that is not 0");
        PaneDesk desk = new PaneDesk();
        desk.make(0, 0, 0, 0, 8, 8, 2);
        desk.make(1, 2, 1, 1, 4, 4, 0);
        desk.make(2, 0, 1, 1, 1, 1, 5);
        desk.pump(0);
        pixel(desk, 1, 1, 2);
        pixel(desk, 2, 2, 5);
        pixel(desk, 3, 3, 2);
        Due.click(desk, 1, 1);
        Due.is("on", desk.state(2, 1), 1);
        pixel(desk, 3, 3, 2);
        desk.change(2, 2, 0);
        desk.pump(0);
        pixel(desk, 3, 3, 2);
        desk.change(0, 0, 0);
        desk.change(1, 0, 0);
        desk.pump(0);
        pixel(desk, 3, 3, 0);
        pixel(desk, 20, 3, 0);
        desk.make(0, 1, 10, 0, 4, 4, 0);
        Due.post(desk, 1, 11, 1);
        desk.pump(1);
        pixel(desk, 11, 1, 0);
    }

    private static void boxThatIsOn() {
        Due.sentence("with 8 exchanged (8 more or less) if it is a box that is on");
        int[] colours = {1, 7, 8, 9, 15};
        int[] exchanged = {9, 15, 0, 1, 7};
        for (int i = 0; i < colours.length; i++) {
            PaneDesk desk = new PaneDesk();
            desk.make(0, 2, 0, 0, 4, 4, colours[i]);
            desk.pump(0);
            pixel(desk, 1, 1, colours[i]);
            Due.click(desk, 1, 1);
            pixel(desk, 1, 1, exchanged[i]);
            Due.click(desk, 1, 1);
            pixel(desk, 1, 1, colours[i]);
        }
    }

    private static void boxThatIsPressed() {
        PaneDesk desk = new PaneDesk();
        desk.make(0, 2, 0, 0, 4, 4, 3);
        Due.post(desk, 1, 1, 1);
        desk.pump(1);
        Due.specials(desk, 1, 1, 1);
        pixel(desk, 1, 1, 3);
        Due.post(desk, 2, 1, 1);
        Due.post(desk, 1, 1, 1);
        desk.pump(16);
        Due.specials(desk, 1, 1, 1);
        pixel(desk, 1, 1, 11);
    }

    private static void buttonPressedAndOver() {
        Due.sentence("or a button that is PRESSED and OVER");
        int[] colours = {1, 7, 8, 9, 15};
        int[] exchanged = {9, 15, 0, 1, 7};
        for (int i = 0; i < colours.length; i++) {
            PaneDesk desk = new PaneDesk();
            desk.make(0, 1, 0, 0, 4, 4, colours[i]);
            Due.post(desk, 0, 1, 1);
            desk.pump(1);
            pixel(desk, 1, 1, colours[i]);
            Due.post(desk, 1, 1, 1);
            desk.pump(1);
            pixel(desk, 1, 1, exchanged[i]);
            Due.post(desk, 0, 9, 9);
            desk.pump(1);
            Due.is("PRESSED", desk.special(1), 1);
            pixel(desk, 1, 1, colours[i]);
            Due.post(desk, 0, -1, -1);
            desk.pump(1);
            pixel(desk, 1, 1, colours[i]);
            Due.post(desk, 0, 2, 2);
            desk.pump(1);
            pixel(desk, 1, 1, exchanged[i]);
            Due.post(desk, 2, 2, 2);
            desk.pump(1);
            pixel(desk, 1, 1, colours[i]);
        }
    }

    private static void otherKindsPressedAndOver() {
        PaneDesk desk = new PaneDesk();
        desk.make(0, 0, 0, 0, 4, 4, 3);
        desk.make(0, 3, 5, 0, 4, 4, 3);
        desk.make(0, 1, 10, 0, 4, 4, 3);
        Due.post(desk, 1, 1, 1);
        desk.pump(1);
        pixel(desk, 1, 1, 3);
        pixel(desk, 11, 1, 3);
        Due.post(desk, 1, 6, 1);
        desk.pump(1);
        pixel(desk, 6, 1, 3);
        Due.post(desk, 1, 20, 10);
        desk.pump(1);
        pixel(desk, 20, 10, 1);
    }

    private static void notAbleLowestThreeBits() {
        Due.sentence("then, if it is not ABLE, with only the lowest three bits");
        int[] colours = {1, 7, 8, 9, 15};
        int[] dull = {1, 7, 0, 1, 7};
        for (int kind = 0; kind <= 3; kind++) {
            for (int i = 0; i < colours.length; i++) {
                PaneDesk desk = new PaneDesk();
                desk.make(0, 0, 0, 0, 8, 8, 14);
                desk.make(1, kind, 0, 0, 4, 4, colours[i]);
                desk.change(2, 2, 0);
                desk.pump(0);
                pixel(desk, 1, 1, dull[i]);
                pixel(desk, 5, 5, 14);
                desk.change(2, 2, 1);
                desk.change(1, 2, 0);
                desk.pump(0);
                pixel(desk, 1, 1, dull[i]);
                pixel(desk, 5, 5, 6);
                pixel(desk, 20, 5, 1);
            }
        }
    }

    private static void exchangedBeforeNotAble() {
        Due.sentence("with 8 exchanged [...]; then, if it is not ABLE, with only the lowest three bits");
        for (int kind = 1; kind <= 2; kind++) {
            PaneDesk desk = new PaneDesk();
            desk.make(0, kind, 0, 0, 4, 4, 3);
            if (kind == 1) {
                Due.post(desk, 1, 1, 1);
                desk.pump(1);
            } else {
                Due.click(desk, 1, 1);
            }
            pixel(desk, 1, 1, 11);
            desk.change(1, 2, 0);
            desk.pump(0);
            pixel(desk, 1, 1, 3);
            desk.change(1, 0, 12);
            desk.pump(0);
            pixel(desk, 1, 1, 4);
            desk.change(1, 0, 8);
            desk.pump(0);
            pixel(desk, 1, 1, 0);
        }
    }

    private static void colourThatBecomes0() {
        Due.sentence("becomes its colour, if that is not 0: with 8 exchanged (8 more or less)");
        PaneDesk desk = new PaneDesk();
        desk.make(0, 0, 0, 0, 12, 12, 5);
        desk.make(1, 2, 0, 0, 4, 4, 8);
        desk.make(1, 0, 6, 0, 4, 4, 8);
        Due.click(desk, 1, 1);
        desk.change(3, 2, 0);
        desk.pump(0);
        pixel(desk, 1, 1, 0);
        pixel(desk, 7, 1, 0);
    }

    private static void rimOfTheFocus() {
        Due.sentence("but 15 if it has the FOCUS and the pixel is at the rim of its rectangle");
        PaneDesk desk = new PaneDesk();
        desk.make(0, 3, 2, 3, 5, 4, 6);
        desk.make(0, 3, 12, 3, 5, 4, 6);
        focusOn(desk, 1);
        for (int y = 2; y < 8; y++) {
            for (int x = 1; x < 8; x++) {
                boolean inside = x >= 2 && x <= 6 && y >= 3 && y <= 6;
                boolean inner = x >= 3 && x <= 5 && y >= 4 && y <= 5;
                pixel(desk, x, y, inner ? 6 : inside ? 15 : 1);
            }
        }
        pixel(desk, 12, 3, 6);
        focusOn(desk, 2);
        pixel(desk, 2, 3, 6);
        pixel(desk, 12, 3, 15);
    }

    private static void rimOfSmallOnes() {
        int[][] sizes = {{1, 1}, {2, 2}, {1, 5}, {5, 1}, {2, 5}, {3, 3}};
        for (int[] size : sizes) {
            PaneDesk desk = new PaneDesk();
            desk.make(0, 1, 4, 4, size[0], size[1], 6);
            focusOn(desk, 1);
            for (int y = 3; y <= 4 + size[1]; y++) {
                for (int x = 3; x <= 4 + size[0]; x++) {
                    boolean inside = x >= 4 && x < 4 + size[0] && y >= 4 && y < 4 + size[1];
                    boolean middle = size[0] == 3 && x == 5 && y == 5;
                    pixel(desk, x, y, middle ? 6 : inside ? 15 : 1);
                }
            }
        }
    }

    private static void rimAlsoIfItsColourIs0() {
        Due.sentence("(also if its colour is 0)");
        PaneDesk desk = new PaneDesk();
        desk.make(0, 3, 2, 3, 5, 4, 0);
        focusOn(desk, 1);
        pixel(desk, 2, 3, 15);
        pixel(desk, 6, 6, 15);
        pixel(desk, 4, 3, 15);
        pixel(desk, 2, 5, 15);
        pixel(desk, 3, 4, 1);
        pixel(desk, 5, 5, 1);
    }

    private static void rimThoughNotAble() {
        Due.sentence("then, if it is not ABLE [...]; but 15 if it has the FOCUS");
        PaneDesk desk = new PaneDesk();
        desk.make(0, 2, 2, 3, 5, 4, 12);
        focusOn(desk, 1);
        desk.change(1, 2, 0);
        desk.pump(0);
        pixel(desk, 2, 3, 15);
        pixel(desk, 3, 4, 4);
        desk.change(0, 2, 0);
        desk.pump(0);
        pixel(desk, 6, 6, 15);
    }

    private static void rimThatIsClipped() {
        Due.sentence("the pixel is at the rim of its rectangle (not of what it is clipped to)");
        PaneDesk desk = new PaneDesk();
        desk.make(0, 0, 4, 4, 6, 6, 2);
        desk.make(1, 3, -1, -1, 7, 9, 6);
        focusOn(desk, 2);
        for (int y = 3; y <= 10; y++) {
            for (int x = 3; x <= 10; x++) {
                boolean inside = x >= 4 && x <= 9 && y >= 4 && y <= 9;
                pixel(desk, x, y, !inside ? 1 : x == 9 ? 15 : 6);
            }
        }
        PaneDesk screen = new PaneDesk();
        screen.make(0, 3, -1, -1, 32, 16, 6);
        focusOn(screen, 1);
        pixel(screen, 0, 0, 6);
        pixel(screen, 30, 0, 15);
        pixel(screen, 0, 14, 15);
        pixel(screen, 31, 15, 1);
    }

    private static void rimUnderChildren() {
        Due.sentence("each widget that is visible is drawn, then its children (over its rim, too)");
        PaneDesk desk = new PaneDesk();
        desk.make(0, 3, 2, 3, 5, 4, 6);
        desk.make(1, 0, 0, 0, 2, 1, 4);
        desk.make(0, 0, 6, 6, 3, 3, 5);
        focusOn(desk, 1);
        pixel(desk, 2, 3, 4);
        pixel(desk, 3, 3, 4);
        pixel(desk, 4, 3, 15);
        pixel(desk, 6, 6, 5);
        pixel(desk, 6, 5, 15);
    }

    private static void rimOfOneThatIsNotSeen() {
        Due.sentence("each widget that is visible is drawn (no rim of another)");
        PaneDesk desk = new PaneDesk();
        desk.make(0, 0, 0, 0, 9, 9, 2);
        desk.make(1, 3, 2, 3, 5, 4, 6);
        focusOn(desk, 2);
        desk.change(2, 1, 0);
        desk.pump(0);
        pixel(desk, 2, 3, 2);
        desk.change(2, 1, 1);
        desk.change(1, 1, 0);
        desk.pump(0);
        pixel(desk, 2, 3, 1);
    }
}
