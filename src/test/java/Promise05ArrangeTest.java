/** Promise 5: arrange, and how rows and columns place their children. */
public final class Promise05ArrangeTest {
    public static void main(String[] args) {
        rowAndColumn();
        rootMayHaveThem();
        weightsInTheRoot();
        oneLeftOver();
        shares();
        firstOnesGetOneMore();
        nothingLeftOver();
        weightCountsOnlyInLines();
        gapOfTheParent();
        hiddenOnesTakeNoRoom();
        orderOfTheStack();
        nested();
        refused();
        Due.end();
    }

    private static PaneDesk panelOfThree(int width, int height) {
        PaneDesk desk = new PaneDesk();
        desk.make(0, 0, 2, 1, width, height, 2);
        desk.make(1, 0, 9, 9, 3, 4, 3);
        desk.make(1, 0, -9, 9, 4, 2, 4);
        desk.make(1, 0, 9, -9, 2, 1, 5);
        return desk;
    }

    private static void rowAndColumn() {
        PaneDesk desk = panelOfThree(20, 12);
        Due.is("row", desk.arrange(1, 1, 1, 0), true);
        Due.rectangle(desk, 2, 2, 1, 3, 12);
        Due.rectangle(desk, 3, 6, 1, 4, 12);
        Due.rectangle(desk, 4, 11, 1, 2, 12);
        Due.is("column", desk.arrange(1, 2, 3, 0), true);
        Due.rectangle(desk, 2, 2, 1, 20, 4);
        Due.rectangle(desk, 3, 2, 8, 20, 2);
        Due.rectangle(desk, 4, 2, 13, 20, 1);
        Due.is("none", desk.arrange(1, 0, 3, 0), true);
        Due.rectangle(desk, 2, 11, 10, 3, 4);
        Due.rectangle(desk, 3, -7, 10, 4, 2);
        desk.arrange(1, 1, 0, 0);
        desk.shift(1, 3, -2);
        Due.rectangle(desk, 2, -1, 3, 3, 12);
        Due.rectangle(desk, 3, 2, 3, 4, 12);
        desk.arrange(1, 2, 0, 0);
        Due.rectangle(desk, 2, -1, 3, 20, 4);
        Due.rectangle(desk, 3, -1, 7, 20, 2);
    }

    private static void rootMayHaveThem() {
        PaneDesk desk = new PaneDesk();
        desk.make(0, 0, 5, 5, 3, 3, 2);
        desk.make(0, 0, 5, 5, 4, 4, 3);
        Due.is("arrange(0, 2, 2, 3)", desk.arrange(0, 2, 2, 3), true);
        Due.rectangle(desk, 0, 0, 0, 32, 16);
        Due.rectangle(desk, 1, 0, 0, 32, 3);
        Due.rectangle(desk, 2, 0, 5, 32, 4);
    }

    private static void weightsInTheRoot() {
        PaneDesk desk = new PaneDesk();
        desk.make(0, 0, 0, 0, 3, 3, 2);
        desk.make(0, 0, 0, 0, 4, 3, 3);
        desk.arrange(0, 1, 3, 0);
        desk.arrange(1, 0, 0, 1);
        desk.arrange(2, 0, 0, 2);
        Due.rectangle(desk, 1, 0, 0, 3 + 7 + 1, 16);
        Due.rectangle(desk, 2, 14, 0, 4 + 14, 16);
    }

    private static void oneLeftOver() {
        PaneDesk desk = panelOfThree(10, 12);
        desk.arrange(1, 1, 0, 0);
        desk.arrange(3, 0, 0, 3);
        Due.rectangle(desk, 2, 2, 1, 3, 12);
        Due.rectangle(desk, 3, 5, 1, 5, 12);
        Due.rectangle(desk, 4, 10, 1, 2, 12);
        desk.arrange(2, 0, 0, 1);
        Due.rectangle(desk, 2, 2, 1, 4, 12);
        Due.rectangle(desk, 3, 6, 1, 4, 12);
    }

    private static void shares() {
        PaneDesk desk = panelOfThree(21, 12);
        desk.arrange(1, 1, 0, 0);
        desk.arrange(2, 0, 0, 1);
        desk.arrange(4, 0, 0, 3);
        Due.rectangle(desk, 2, 2, 1, 6, 12);
        Due.rectangle(desk, 3, 8, 1, 4, 12);
        Due.rectangle(desk, 4, 12, 1, 11, 12);
        desk.arrange(1, 2, 1, 0);
        Due.rectangle(desk, 2, 2, 1, 21, 4 + 0 + 1);
        Due.rectangle(desk, 3, 2, 7, 21, 2);
        Due.rectangle(desk, 4, 2, 10, 21, 1 + 2);
    }

    private static void firstOnesGetOneMore() {
        PaneDesk desk = panelOfThree(14, 12);
        desk.arrange(1, 1, 0, 0);
        for (int widget = 2; widget < 5; widget++) {
            desk.arrange(widget, 0, 0, 1);
        }
        Due.is("width of 2", desk.rectangle(2, 2), 3 + 2);
        Due.is("width of 3", desk.rectangle(3, 2), 4 + 2);
        Due.is("width of 4", desk.rectangle(4, 2), 2 + 1);
        desk.arrange(2, 0, 0, 0);
        desk.wish(1, 2, 1, 12, 12);
        Due.is("no weight, nothing more", desk.rectangle(2, 2), 3);
        Due.is("first with a weight", desk.rectangle(3, 2), 4 + 2);
        Due.is("second with a weight", desk.rectangle(4, 2), 2 + 1);
        desk.arrange(2, 0, 0, 3);
        desk.arrange(3, 0, 0, 3);
        desk.wish(1, 2, 1, 11, 12);
        Due.is("share 6 / 7 and one", desk.rectangle(2, 2), 3 + 1);
        Due.is("share 6 / 7 and one", desk.rectangle(3, 2), 4 + 1);
        Due.is("share 2 / 7", desk.rectangle(4, 2), 2);
    }

    private static void nothingLeftOver() {
        PaneDesk desk = panelOfThree(11, 12);
        desk.arrange(1, 1, 1, 0);
        for (int widget = 2; widget < 5; widget++) {
            desk.arrange(widget, 0, 0, 2);
        }
        Due.rectangle(desk, 2, 2, 1, 3, 12);
        Due.rectangle(desk, 3, 6, 1, 4, 12);
        Due.rectangle(desk, 4, 11, 1, 2, 12);
        desk.wish(1, 2, 1, 4, 12);
        Due.rectangle(desk, 3, 6, 1, 4, 12);
        Due.rectangle(desk, 4, 11, 1, 2, 12);
    }

    private static void weightCountsOnlyInLines() {
        PaneDesk desk = panelOfThree(20, 12);
        desk.arrange(2, 0, 0, 3);
        Due.rectangle(desk, 2, 11, 10, 3, 4);
        desk.arrange(1, 1, 0, 3);
        Due.rectangle(desk, 1, 2, 1, 20, 12);
        Due.is("all that is left over", desk.rectangle(2, 2), 14);
    }

    private static void gapOfTheParent() {
        PaneDesk desk = panelOfThree(20, 12);
        desk.arrange(1, 1, 2, 0);
        desk.arrange(2, 0, 3, 0);
        Due.is("left of 3", desk.rectangle(3, 0), 2 + 3 + 2);
        desk.arrange(1, 1, 3, 0);
        desk.arrange(3, 0, 0, 1);
        Due.is("gaps are not left over", desk.rectangle(3, 2), 4 + 20 - 9 - 6);
    }

    private static void hiddenOnesTakeNoRoom() {
        PaneDesk desk = panelOfThree(20, 12);
        desk.arrange(1, 1, 2, 0);
        desk.arrange(3, 0, 0, 3);
        desk.arrange(4, 0, 0, 1);
        desk.change(3, 1, 0);
        desk.shift(1, 1, 1);
        Due.rectangle(desk, 2, 1, 0, 3, 12);
        Due.rectangle(desk, 3, 2, 1, 4, 2);
        Due.rectangle(desk, 4, 6, 0, 2 + 20 - 5 - 2, 12);
        desk.change(2, 1, 0);
        Due.rectangle(desk, 4, 1, 0, 20, 12);
        desk.change(1, 1, 0);
        Due.rectangle(desk, 4, 1, 0, 20, 12);
    }

    private static void orderOfTheStack() {
        PaneDesk desk = panelOfThree(20, 12);
        desk.arrange(1, 1, 1, 0);
        desk.change(4, 3, 0);
        Due.is("left of 4", desk.rectangle(4, 0), 2);
        Due.is("left of 2", desk.rectangle(2, 0), 5);
        Due.is("left of 3", desk.rectangle(3, 0), 9);
    }

    private static void nested() {
        PaneDesk desk = panelOfThree(20, 12);
        desk.arrange(1, 1, 0, 0);
        desk.arrange(3, 2, 1, 1);
        desk.make(3, 0, 0, 0, 1, 2, 6);
        desk.make(3, 0, 0, 0, 1, 2, 7);
        desk.arrange(6, 0, 0, 1);
        Due.rectangle(desk, 5, 5, 1, 15, 2);
        Due.rectangle(desk, 6, 5, 4, 15, 9);
    }

    private static void refused() {
        PaneDesk desk = panelOfThree(20, 12);
        desk.arrange(1, 1, 1, 1);
        String before = Due.face(desk);
        int[][] wrong = {
            {5, 0, 0, 0}, {12, 0, 0, 0}, {-1, 0, 0, 0}, {Integer.MIN_VALUE, 0, 0, 0},
            {1, -1, 0, 0}, {1, 3, 0, 0}, {1, 2, -1, 0}, {1, 2, 4, 0}, {1, 2, 0, -1}, {1, 2, 0, 4},
        };
        for (int[] a : wrong) {
            Due.is(java.util.Arrays.toString(a), desk.arrange(a[0], a[1], a[2], a[3]), false);
        }
        Due.same("refused arrange", Due.face(desk), before);
        Due.is("greatest", desk.arrange(1, 2, 3, 3), true);
    }
}
