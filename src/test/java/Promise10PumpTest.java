/** Promise 10: pump, and how each event is carried out. */
public final class Promise10PumpTest {
    public static void main(String[] args) {
        counts();
        theFirstOnesAlone();
        refused();
        drawsAnew();
        move();
        moveSeesTheRectanglesOfNow();
        press();
        pressOnWhatIsNotAble();
        release();
        keys();
        keysNeedSeenAndAble();
        tabs();
        tabInTheTree();
        tabWithoutOthers();
        oneAfterTheOther();
        Due.end();
    }

    private static PaneDesk row() {
        PaneDesk desk = new PaneDesk();
        desk.make(0, 1, 0, 0, 4, 4, 3);
        desk.make(0, 2, 5, 0, 4, 4, 4);
        desk.make(0, 3, 10, 0, 4, 4, 5);
        desk.make(0, 0, 15, 0, 4, 4, 6);
        return desk;
    }

    private static void counts() {
        PaneDesk desk = row();
        Due.is("pump(3) of none", desk.pump(3), 0);
        for (int i = 0; i < 10; i++) {
            desk.post(3, i, 0);
        }
        Due.is("pump(0)", desk.pump(0), 0);
        Due.is("pump(3)", desk.pump(3), 3);
        Due.is("pump(7)", desk.pump(7), 7);
        desk.post(4, 0, 0);
        Due.is("pump(16)", desk.pump(16), 1);
        desk.post(4, 0, 0);
        desk.post(4, 0, 0);
        Due.is("pump(1)", desk.pump(1), 1);
        Due.specials(desk, -1, -1, 2);
        Due.is("pump(1)", desk.pump(1), 1);
        Due.specials(desk, -1, -1, 3);
    }

    private static void theFirstOnesAlone() {
        PaneDesk desk = row();
        Due.post(desk, 1, 11, 1);
        Due.post(desk, 2, 12, 2);
        for (int k = 1; k < 10; k++) {
            Due.post(desk, 3, k, 0);
        }
        Due.post(desk, 0, 6, 1);
        Due.is("pump(1)", desk.pump(1), 1);
        Due.specials(desk, 3, 3, 3);
        Due.is("pump(3)", desk.pump(3), 3);
        Due.specials(desk, 3, -1, 3);
        Due.is("two keys", desk.state(3, 0), 12);
        Due.is("pump(2)", desk.pump(2), 2);
        Due.is("two keys more", desk.state(3, 0), 234);
        Due.is("post behind those that wait", desk.post(4, 0, 0), 7);
        Due.is("pump(5)", desk.pump(5), 5);
        Due.is("the last keys", desk.state(3, 0), 789);
        Due.is("pump(1)", desk.pump(1), 1);
        Due.specials(desk, 2, -1, 3);
        Due.is("pump(16)", desk.pump(16), 1);
        Due.specials(desk, 2, -1, 1);
    }

    private static void refused() {
        PaneDesk desk = row();
        desk.post(0, 1, 1);
        String before = Due.face(desk);
        for (int n : new int[] {-1, 17, Integer.MAX_VALUE, Integer.MIN_VALUE}) {
            Due.is("pump(" + n + ")", desk.pump(n), -1);
        }
        Due.same("refused pump", Due.face(desk), before);
        Due.is("it still waits", desk.pump(16), 1);
    }

    private static void drawsAnew() {
        PaneDesk desk = row();
        desk.pump(0);
        Due.is("pixel(1, 1)", desk.pixel(1, 1), 3);
        desk.change(0, 0, 0);
        desk.change(1, 1, 0);
        desk.pump(0);
        Due.is("nothing is left of what was drawn", desk.pixel(1, 1), 0);
        Due.is("pixel(30, 10)", desk.pixel(30, 10), 0);
        Due.is("pixel(6, 1)", desk.pixel(6, 1), 4);
    }

    private static void move() {
        PaneDesk desk = row();
        Due.post(desk, 0, 1, 1);
        desk.pump(1);
        Due.specials(desk, 1, -1, -1);
        Due.notes(desk, 1, 33);
        Due.post(desk, 0, 3, 3);
        desk.pump(1);
        Due.notes(desk, 1, 33);
        Due.post(desk, 0, 6, 1);
        desk.pump(1);
        Due.notes(desk, 3, 33, 17, 34);
        int[][] outside = {{-1, 0}, {32, 0}, {0, -1}, {0, 16}, {-8, -8}, {39, 23}};
        for (int[] pixel : outside) {
            PaneDesk other = row();
            Due.post(other, 0, 1, 1);
            other.pump(1);
            Due.post(other, 0, pixel[0], pixel[1]);
            other.pump(1);
            Due.specials(other, -1, -1, -1);
            Due.notes(other, 2, 33, 17);
        }
        desk.change(2, 2, 0);
        Due.post(desk, 0, 30, 10);
        Due.post(desk, 4, 0, 0);
        Due.post(desk, 0, 6, 1);
        desk.pump(16);
        Due.specials(desk, 2, -1, 1);
        Due.notes(desk, 8, 18, 32, 81, 16, 34);
    }

    private static void moveSeesTheRectanglesOfNow() {
        PaneDesk desk = row();
        desk.effect(1, 1, 2);
        Due.post(desk, 1, 1, 1);
        Due.post(desk, 2, 1, 1);
        Due.post(desk, 0, 6, 1);
        Due.post(desk, 1, 1, 1);
        Due.post(desk, 2, 1, 1);
        Due.post(desk, 0, 6, 1);
        desk.pump(16);
        Due.notes(desk, 12, 33, 49, 81, 97, 17, 32, 16, 33, 49, 97, 17, 34);
    }

    private static void press() {
        PaneDesk desk = row();
        Due.post(desk, 1, 1, 1);
        desk.pump(1);
        Due.specials(desk, 1, 1, 1);
        Due.notes(desk, 3, 33, 49, 81);
        Due.post(desk, 1, 1, 1);
        desk.pump(1);
        Due.notes(desk, 4, 81, 49);
        Due.post(desk, 1, 16, 1);
        desk.pump(1);
        Due.specials(desk, 4, 4, 1);
        Due.notes(desk, 7, 17, 36, 52);
        Due.post(desk, 1, 6, 1);
        desk.pump(1);
        Due.specials(desk, 2, 2, 2);
        Due.notes(desk, 11, 20, 34, 50, 82);
        Due.post(desk, 1, 11, 1);
        desk.pump(1);
        Due.specials(desk, 3, 3, 3);
        Due.post(desk, 1, -1, 1);
        desk.pump(1);
        Due.specials(desk, -1, 3, 3);
        Due.post(desk, 1, 30, 10);
        desk.pump(1);
        Due.specials(desk, 0, 0, 3);
    }

    private static void pressOnWhatIsNotAble() {
        PaneDesk desk = row();
        desk.change(2, 2, 0);
        Due.post(desk, 1, 1, 1);
        Due.post(desk, 1, 6, 1);
        desk.pump(16);
        Due.specials(desk, 2, 1, 1);
        Due.notes(desk, 5, 33, 49, 81, 17, 34);
        desk.change(0, 2, 0);
        Due.post(desk, 1, 11, 1);
        desk.pump(16);
        Due.specials(desk, 3, 1, 1);
    }

    private static void release() {
        PaneDesk desk = row();
        Due.post(desk, 2, 1, 1);
        desk.pump(1);
        Due.notes(desk, 1, 33);
        Due.click(desk, 1, 1);
        Due.specials(desk, 1, -1, 1);
        Due.notes(desk, 4, 33, 49, 81, 97);
        Due.post(desk, 1, 1, 1);
        Due.post(desk, 2, 6, 1);
        desk.pump(16);
        Due.specials(desk, 2, -1, 1);
        Due.notes(desk, 7, 49, 17, 34);
        Due.post(desk, 1, 6, 1);
        Due.post(desk, 0, 11, 1);
        Due.post(desk, 2, 6, 1);
        desk.pump(16);
        Due.is("box is on", desk.state(2, 1), 1);
        Due.click(desk, 6, 1);
        Due.is("box is off", desk.state(2, 1), 0);
        Due.post(desk, 1, 6, 1);
        desk.pump(16);
        desk.change(2, 2, 0);
        Due.post(desk, 2, 6, 1);
        desk.pump(16);
        Due.specials(desk, 2, -1, 2);
        Due.is("noted(0)", desk.noted(0), 50);
        Due.is("box stays off", desk.state(2, 1), 0);
        Due.click(desk, 11, 1);
        Due.is("a field acts", desk.noted(0), 99);
        Due.click(desk, 16, 1);
        Due.is("a panel acts", desk.noted(0), 100);
    }

    private static void keys() {
        PaneDesk desk = row();
        Due.post(desk, 3, 0, 0);
        desk.pump(1);
        Due.notes(desk, 0);
        Due.click(desk, 11, 1);
        int[] typed = {0, 4, 7, 1, 9, 0};
        int[] values = {0, 4, 47, 471, 719, 190};
        for (int i = 0; i < typed.length; i++) {
            Due.post(desk, 3, typed[i], 0);
            desk.pump(1);
            Due.is("value after " + typed[i], desk.state(3, 0), values[i]);
            Due.notes(desk, 5 + i, 67);
        }
        Due.click(desk, 6, 1);
        Due.is("on by the click", desk.state(2, 1), 1);
        int before = desk.noted(-1);
        for (int k = 1; k < 10; k++) {
            Due.post(desk, 3, k, 0);
        }
        desk.pump(16);
        Due.is("keys 1 to 9 do nothing to a box", desk.noted(-1), before);
        Due.post(desk, 3, 0, 0);
        desk.pump(1);
        Due.notes(desk, before + 1, 98);
        Due.is("off by key 0", desk.state(2, 1), 0);
        Due.is("no value", desk.state(2, 0), 0);
        desk.effect(1, 1, 4);
        Due.click(desk, 1, 1);
        Due.post(desk, 3, 0, 0);
        desk.pump(1);
        Due.notes(desk, before + 7, 18, 33, 49, 81, 97, 97);
        Due.is("shown again", desk.state(4, 2), 1);
    }

    private static void keysNeedSeenAndAble() {
        PaneDesk desk = row();
        desk.make(4, 3, 1, 1, 2, 2, 7);
        Due.click(desk, 16, 1);
        Due.specials(desk, 5, -1, 5);
        int before = desk.noted(-1);
        for (int what = 1; what <= 2; what++) {
            for (int widget = 0; widget <= 5; widget += widget == 0 ? 4 : 1) {
                desk.change(widget, what, 0);
                Due.post(desk, 3, 7, 0);
                desk.pump(1);
                Due.is("no value", desk.state(5, 0), 0);
                Due.is("nothing noted", desk.noted(-1), before);
                Due.specials(desk, 5, -1, 5);
                desk.change(widget, what, 1);
            }
        }
        Due.post(desk, 3, 7, 0);
        desk.pump(1);
        Due.is("value", desk.state(5, 0), 7);
    }

    private static void tabs() {
        PaneDesk desk = row();
        int[] order = {1, 2, 3, 1, 2};
        for (int i = 0; i < order.length; i++) {
            Due.post(desk, 4, 0, 0);
            desk.pump(1);
            Due.specials(desk, -1, -1, order[i]);
            Due.notes(desk, i + 1, 80 + order[i]);
        }
        desk.change(3, 2, 0);
        Due.post(desk, 4, 0, 0);
        desk.pump(1);
        Due.specials(desk, -1, -1, 1);
        desk.change(2, 1, 0);
        desk.change(3, 2, 1);
        Due.post(desk, 4, 0, 0);
        desk.pump(1);
        Due.specials(desk, -1, -1, 3);
    }

    private static void tabInTheTree() {
        PaneDesk desk = new PaneDesk();
        desk.make(0, 1, 0, 0, 9, 9, 2);
        desk.make(0, 0, 9, 0, 9, 9, 2);
        desk.make(0, 3, 18, 0, 9, 9, 2);
        desk.make(2, 2, 0, 0, 3, 3, 2);
        desk.make(1, 3, 0, 0, 3, 3, 2);
        desk.make(2, 1, 3, 3, 3, 3, 2);
        desk.change(6, 3, 0);
        checkTabs(desk, 1, 5, 6, 4, 3, 1);
        desk.change(2, 3, 0);
        checkTabs(desk, 5, 3, 6, 4, 1);
        desk.change(2, 2, 0);
        checkTabs(desk, 5, 3, 1, 5);
        desk.change(2, 2, 1);
        desk.change(2, 1, 0);
        checkTabs(desk, 3, 1, 5);
        desk.change(2, 1, 1);
        desk.change(5, 1, 0);
        checkTabs(desk, 3, 6);
    }

    private static void checkTabs(PaneDesk desk, int... order) {
        for (int widget : order) {
            Due.post(desk, 4, 0, 0);
            desk.pump(1);
            Due.is("FOCUS after TAB", desk.special(2), widget);
        }
    }

    private static void tabWithoutOthers() {
        PaneDesk desk = new PaneDesk();
        desk.make(0, 0, 0, 0, 9, 9, 2);
        checkTabs(desk, -1);
        Due.notes(desk, 0);
        desk.make(1, 1, 0, 0, 9, 9, 2);
        checkTabs(desk, 2, 2);
        Due.notes(desk, 1, 82);
        desk.change(2, 1, 0);
        checkTabs(desk, 2);
        desk.make(0, 1, 0, 0, 9, 9, 2);
        desk.change(3, 2, 0);
        checkTabs(desk, 2);
        Due.notes(desk, 1, 82);
        desk.change(3, 2, 1);
        checkTabs(desk, 3, 3);
        Due.notes(desk, 2, 82, 83);
    }

    private static void oneAfterTheOther() {
        PaneDesk desk = row();
        desk.effect(1, 2, 3);
        Due.post(desk, 1, 1, 1);
        Due.post(desk, 2, 1, 1);
        Due.post(desk, 1, 11, 1);
        Due.post(desk, 3, 0, 0);
        Due.post(desk, 4, 0, 0);
        Due.post(desk, 4, 0, 0);
        Due.post(desk, 3, 5, 0);
        desk.pump(16);
        Due.specials(desk, 3, -1, 3);
        Due.notes(desk, 10, 33, 49, 81, 97, 17, 35, 97, 82, 83, 67);
    }
}
