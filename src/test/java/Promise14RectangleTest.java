/** Promise 14: rectangle. */
public final class Promise14RectangleTest {
    public static void main(String[] args) {
        asTheScreenCounts();
        ofNow();
        oneThatIsNotThere();
        anotherWhat();
        notVisibleInALine();
        notVisibleInALineWithAShift();
        notVisibleBesideOthers();
        notVisibleByHand();
        childrenOfOneThatIsNotVisible();
        Due.end();
    }

    private static void asTheScreenCounts() {
        Due.sentence("what 0: the left, 1: the upper pixel (as the screen counts), 2 width, 3 height");
        PaneDesk desk = new PaneDesk();
        Due.rectangle(desk, 0, 0, 0, 32, 16);
        desk.make(0, 0, 30, -5, 7, 9, 2);
        Due.rectangle(desk, 1, 30, -5, 7, 9);
        desk.make(1, 0, 40, 40, 32, 1, 2);
        Due.rectangle(desk, 2, 70, 35, 32, 1);
    }

    private static void ofNow() {
        Due.sentence("Of a widget's rectangle now");
        PaneDesk desk = new PaneDesk();
        desk.make(0, 0, 3, 4, 5, 6, 2);
        desk.pump(0);
        desk.wish(1, 4, 3, 6, 5);
        Due.rectangle(desk, 1, 4, 3, 6, 5);
        desk.arrange(0, 1, 0, 0);
        Due.rectangle(desk, 1, 0, 0, 6, 16);
        desk.shift(0, 1, 2);
        Due.rectangle(desk, 1, -1, -2, 6, 16);
    }

    private static void oneThatIsNotThere() {
        Due.sentence("-1000 if it is not there");
        PaneDesk desk = new PaneDesk();
        desk.make(0, 0, 3, 4, 5, 6, 2);
        desk.make(1, 0, 3, 4, 5, 6, 2);
        desk.make(2, 0, 3, 4, 5, 6, 2);
        desk.remove(2);
        for (int what = 0; what < 4; what++) {
            for (int widget : Due.outside(0, 11)) {
                Due.is("rectangle(" + widget + ", " + what + ")", desk.rectangle(widget, what), -1000);
            }
            for (int widget = 2; widget < 12; widget++) {
                Due.is("rectangle(" + widget + ", " + what + ")", desk.rectangle(widget, what), -1000);
            }
        }
    }

    private static void anotherWhat() {
        Due.sentence("-1000 if [...] what is another");
        PaneDesk desk = new PaneDesk();
        desk.make(0, 0, 3, 4, 5, 6, 2);
        for (int widget = 0; widget < 3; widget++) {
            for (int what : Due.outside(0, 3)) {
                Due.is("rectangle(" + widget + ", " + what + ")", desk.rectangle(widget, what), -1000);
            }
        }
    }

    private static void notVisibleInALine() {
        Due.sentence("(In a row or column one that is not visible has its wish's width and height,");
        for (int layout = 1; layout <= 2; layout++) {
            PaneDesk desk = new PaneDesk();
            desk.make(0, 0, 3, 2, 20, 10, 2);
            desk.make(1, 0, 5, 5, 2, 2, 3);
            desk.make(1, 0, 5, 5, 4, 3, 4);
            desk.arrange(1, layout, 1, 0);
            desk.arrange(3, 0, 0, 2);
            desk.change(3, 1, 0);
            Due.rectangle(desk, 3, 3, 2, 4, 3);
            desk.wish(3, -7, -7, 32, 1);
            Due.rectangle(desk, 3, 3, 2, 32, 1);
            desk.change(3, 1, 1);
            Due.is("it stands in line again", desk.rectangle(3, layout - 1), layout == 1 ? 6 : 5);
        }
    }

    private static void notVisibleInALineWithAShift() {
        Due.sentence("and its upper left pixel is the parent's.)");
        for (int layout = 1; layout <= 2; layout++) {
            PaneDesk desk = new PaneDesk();
            desk.make(0, 0, 3, 2, 20, 10, 2);
            desk.make(1, 0, 5, 5, 4, 3, 4);
            desk.arrange(1, layout, 3, 0);
            desk.shift(1, 7, -6);
            desk.change(2, 1, 0);
            Due.rectangle(desk, 2, 3, 2, 4, 3);
            desk.arrange(0, layout, 0, 0);
            desk.arrange(1, layout, 3, 0);
            desk.shift(0, -1, -2);
            Due.is("left", desk.rectangle(2, 0), 1);
            Due.is("top", desk.rectangle(2, 1), 2);
        }
    }

    private static void notVisibleBesideOthers() {
        PaneDesk desk = new PaneDesk();
        for (int widget = 1; widget < 12; widget++) {
            desk.make(0, 0, 0, 0, 2, 2, 3);
        }
        desk.arrange(0, 1, 0, 0);
        for (int hidden = 1; hidden < 12; hidden += 2) {
            desk.change(hidden, 1, 0);
            for (int widget = 1; widget < 12; widget++) {
                int before = widget > hidden ? widget - 2 : widget - 1;
                Due.rectangle(desk, widget, widget == hidden ? 0 : 2 * before, 0, 2, widget == hidden ? 2 : 16);
            }
            desk.change(hidden, 1, 1);
        }
    }

    private static void notVisibleByHand() {
        Due.sentence("(In a row or column; one that is placed by hand stands where it did)");
        PaneDesk desk = new PaneDesk();
        desk.make(0, 0, 3, 2, 20, 10, 2);
        desk.make(1, 0, 5, 6, 4, 3, 4);
        desk.change(1, 1, 0);
        desk.shift(0, 2, 3);
        Due.rectangle(desk, 1, 1, -1, 20, 10);
        Due.rectangle(desk, 2, 6, 5, 4, 3);
        desk.change(2, 1, 0);
        Due.rectangle(desk, 2, 6, 5, 4, 3);
    }

    private static void childrenOfOneThatIsNotVisible() {
        Due.sentence("a child's upper left pixel is the parent's, plus its wish's place (though that is not visible)");
        for (int layout = 1; layout <= 2; layout++) {
            PaneDesk desk = new PaneDesk();
            desk.make(0, 0, 3, 2, 20, 10, 2);
            desk.make(1, 0, 5, 5, 2, 2, 3);
            desk.make(1, 0, 5, 5, 4, 3, 4);
            desk.make(3, 0, 1, 1, 2, 2, 5);
            desk.arrange(1, layout, 1, 0);
            desk.shift(1, 7, -6);
            desk.change(3, 1, 0);
            Due.rectangle(desk, 4, 4, 3, 2, 2);
            desk.arrange(3, layout, 0, 0);
            Due.rectangle(desk, 4, 3, 2, layout == 1 ? 2 : 4, layout == 1 ? 3 : 2);
        }
    }
}
