/** Promise 2: make. */
public final class Promise02MakeTest {
    public static void main(String[] args) {
        numbers();
        edges();
        refused();
        full();
        newOnesAreFresh();
        shiftIsFresh();
        highestOfItsSiblings();
        Due.end();
    }

    private static void numbers() {
        PaneDesk desk = new PaneDesk();
        Due.is("first", desk.make(0, 0, 1, 2, 3, 4, 5), 1);
        Due.rectangle(desk, 1, 1, 2, 3, 4);
        Due.is("second", desk.make(1, 3, 1, 1, 1, 1, 6), 2);
        Due.is("its parent", desk.state(2, 4), 1);
        Due.is("third", desk.make(0, 2, 1, 1, 1, 1, 6), 3);
        Due.is("remove(1)", desk.remove(1), 2);
        Due.is("least free", desk.make(3, 0, 0, 0, 1, 1, 1), 1);
        Due.is("next free", desk.make(1, 0, 0, 0, 1, 1, 1), 2);
        Due.is("behind", desk.make(2, 0, 0, 0, 1, 1, 1), 4);
        Due.is("parent with a greater number", desk.state(1, 4), 3);
    }

    private static void edges() {
        PaneDesk desk = new PaneDesk();
        Due.is("least numbers", desk.make(0, 0, -40, -40, 1, 1, 0), 1);
        Due.rectangle(desk, 1, -40, -40, 1, 1);
        Due.is("greatest numbers", desk.make(0, 3, 40, 40, 32, 32, 15), 2);
        Due.rectangle(desk, 2, 40, 40, 32, 32);
    }

    private static void refused() {
        int[][] wrong = {
            {-1, 0, 0, 0, 1, 1, 1}, {1, 0, 0, 0, 1, 1, 1}, {12, 0, 0, 0, 1, 1, 1},
            {Integer.MAX_VALUE, 0, 0, 0, 1, 1, 1}, {Integer.MIN_VALUE, 0, 0, 0, 1, 1, 1},
            {0, -1, 0, 0, 1, 1, 1}, {0, 4, 0, 0, 1, 1, 1},
            {0, 0, -41, 0, 1, 1, 1}, {0, 0, 41, 0, 1, 1, 1},
            {0, 0, 0, -41, 1, 1, 1}, {0, 0, 0, 41, 1, 1, 1},
            {0, 0, 0, 0, 0, 1, 1}, {0, 0, 0, 0, 33, 1, 1},
            {0, 0, 0, 0, 1, 0, 1}, {0, 0, 0, 0, 1, 33, 1},
            {0, 0, 0, 0, 1, 1, -1}, {0, 0, 0, 0, 1, 1, 16},
        };
        PaneDesk desk = new PaneDesk();
        String before = Due.face(desk);
        for (int[] a : wrong) {
            Due.is(java.util.Arrays.toString(a), desk.make(a[0], a[1], a[2], a[3], a[4], a[5], a[6]), -1);
        }
        Due.same("refused make", Due.face(desk), before);
        Due.is("first after refused ones", desk.make(0, 0, 0, 0, 1, 1, 1), 1);
    }

    private static void full() {
        PaneDesk desk = new PaneDesk();
        for (int widget = 1; widget < 12; widget++) {
            Due.is("make", desk.make(widget - 1, 0, 0, 0, 1, 1, 1), widget);
        }
        String before = Due.face(desk);
        Due.is("thirteenth", desk.make(0, 0, 0, 0, 1, 1, 1), -2);
        Due.same("make that is FULL", Due.face(desk), before);
        Due.is("remove(11)", desk.remove(11), 1);
        Due.is("room again", desk.make(0, 0, 0, 0, 1, 1, 1), 11);
    }

    private static void newOnesAreFresh() {
        PaneDesk desk = new PaneDesk();
        desk.make(0, 3, 0, 0, 4, 4, 5);
        desk.arrange(1, 1, 2, 3);
        desk.shift(1, 5, 6);
        Due.click(desk, 1, 1);
        Due.post(desk, 3, 7, 0);
        desk.pump(16);
        desk.effect(1, 1, 1);
        desk.change(1, 1, 0);
        desk.change(1, 2, 0);
        desk.remove(1);
        Due.is("make", desk.make(0, 2, 0, 0, 4, 4, 8), 1);
        int[] want = {0, 0, 1, 1, 0, 0};
        for (int what = 0; what < want.length; what++) {
            Due.is("state(1, " + what + ")", desk.state(1, what), want[what]);
        }
        desk.make(1, 0, 1, 1, 2, 2, 3);
        desk.make(1, 0, 0, 2, 1, 1, 4);
        Due.rectangle(desk, 2, 1, 1, 2, 2);
        Due.rectangle(desk, 3, 0, 2, 1, 1);
        desk.arrange(0, 1, 0, 0);
        Due.is("weight 0", desk.rectangle(1, 2), 4);
        desk.arrange(0, 0, 0, 0);
        Due.click(desk, 3, 3);
        Due.is("it is on", desk.state(1, 1), 1);
        Due.is("no effect", desk.state(1, 2), 1);
        desk.remove(1);
        desk.make(0, 2, 0, 0, 4, 4, 8);
        Due.is("not on", desk.state(1, 1), 0);
    }

    private static void shiftIsFresh() {
        PaneDesk desk = new PaneDesk();
        for (int widget = 1; widget < 11; widget++) {
            desk.make(0, 0, widget, 0, 4, 4, 5);
            desk.shift(widget, widget, -widget);
        }
        for (int widget = 1; widget < 11; widget++) {
            desk.remove(widget);
            desk.make(0, 0, widget, 0, 4, 4, 5);
            Due.is("child", desk.make(widget, 0, 2, 3, 1, 1, 5), 11);
            Due.rectangle(desk, 11, widget + 2, 3, 1, 1);
            Due.is("remove(11)", desk.remove(11), 1);
            if (widget < 10) {
                desk.make(widget + 1, 0, 2, 3, 1, 1, 5);
                Due.rectangle(desk, 11, 2, 3 + widget + 1, 1, 1);
                desk.remove(11);
            }
        }
    }

    private static void highestOfItsSiblings() {
        PaneDesk desk = new PaneDesk();
        desk.make(0, 0, 0, 0, 3, 3, 2);
        desk.make(0, 0, 0, 0, 3, 3, 3);
        desk.make(0, 0, 0, 0, 3, 3, 4);
        Due.is("at(0, 0)", desk.at(0, 0), 3);
        desk.remove(1);
        Due.is("least number", desk.make(0, 0, 0, 0, 3, 3, 5), 1);
        Due.is("at(0, 0)", desk.at(0, 0), 1);
        desk.pump(0);
        Due.is("pixel(0, 0)", desk.pixel(0, 0), 5);
    }
}
