import java.util.Arrays;

/** Promise 5: arrange. How rows and columns then place their children is in TermsRectanglesTest. */
public final class Promise05ArrangeTest {
    public static void main(String[] args) {
        layoutGapAndWeight();
        noSuchWidget();
        layoutNot0To2();
        gapNot0To3();
        weightNot0To3();
        rootMayHaveThem();
        weightCountsOnlyInLines();
        gapOfTheParent();
        Due.end();
    }

    private static PaneDesk panelOfThree(int width, int height) {
        PaneDesk desk = new PaneDesk();
        desk.make(0, 0, 2, 1, width, height, 2);
        desk.make(1, 0, 9, 9, 3, 4, 3);
        desk.make(1, 0, -9, 9, 4, 2, 4);
        desk.make(1, 0, 9, -9, 2, 1, 5);
        return desk;
    }

    private static void refused(int... a) {
        String call = "arrange" + Arrays.toString(a);
        Twins.changesNothing(call, Twins::lively, desk -> Due.is(call, desk.arrange(a[0], a[1], a[2], a[3]), false));
    }

    private static void layoutGapAndWeight() {
        Due.sentence("Layout, gap and weight.");
        PaneDesk desk = panelOfThree(20, 12);
        Due.is("row", desk.arrange(1, 1, 1, 0), true);
        Due.rectangle(desk, 2, 2, 1, 3, 12);
        Due.rectangle(desk, 3, 6, 1, 4, 12);
        Due.rectangle(desk, 4, 11, 1, 2, 12);
        Due.is("column", desk.arrange(1, 2, 3, 0), true);
        Due.rectangle(desk, 2, 2, 1, 20, 4);
        Due.rectangle(desk, 3, 2, 8, 20, 2);
        Due.rectangle(desk, 4, 2, 13, 20, 1);
        Due.is("none", desk.arrange(1, 0, 3, 0), true);
        Due.rectangle(desk, 2, 11, 10, 3, 4);
        Due.rectangle(desk, 3, -7, 10, 4, 2);
        Due.rectangle(desk, 4, 11, -8, 2, 1);
    }

    private static void noSuchWidget() {
        Due.sentence("False likewise (no such widget)");
        for (int widget : Due.outside(0, 11)) {
            refused(widget, 1, 1, 1);
        }
        refused(8, 1, 1, 1);
        refused(11, 1, 1, 1);
        PaneDesk desk = panelOfThree(20, 12);
        desk.remove(1);
        Due.is("one that was taken away", desk.arrange(1, 0, 0, 0), false);
        Due.is("one that was taken away with it", desk.arrange(2, 0, 0, 0), false);
    }

    private static void layoutNot0To2() {
        Due.sentence("False likewise (a layout that is not 0, 1 or 2)");
        PaneDesk desk = panelOfThree(20, 12);
        Due.is("least", desk.arrange(1, 0, 0, 0), true);
        Due.is("greatest", desk.arrange(1, 2, 0, 0), true);
        for (int layout : Due.outside(0, 2)) {
            refused(1, layout, 0, 0);
        }
    }

    private static void gapNot0To3() {
        Due.sentence("False likewise (a gap that is not 0 .. 3)");
        PaneDesk desk = panelOfThree(20, 12);
        for (int gap = 0; gap <= 3; gap++) {
            Due.is("gap " + gap, desk.arrange(1, 1, gap, 0), true);
            Due.rectangle(desk, 3, 2 + 3 + gap, 1, 4, 12);
            Due.rectangle(desk, 4, 2 + 3 + gap + 4 + gap, 1, 2, 12);
        }
        for (int gap : Due.outside(0, 3)) {
            refused(1, 2, gap, 0);
        }
    }

    private static void weightNot0To3() {
        Due.sentence("False likewise (a weight that is not 0 .. 3)");
        PaneDesk desk = panelOfThree(13, 12);
        desk.arrange(1, 1, 0, 0);
        desk.arrange(4, 0, 0, 1);
        for (int weight = 0; weight <= 3; weight++) {
            Due.is("weight " + weight, desk.arrange(2, 0, 0, weight), true);
            // Four are left over: 0 and 4, 2 and 2, 2.7 and 1.3, 3 and 1.
            Due.is("width of 2", desk.rectangle(2, 2), 3 + new int[] {0, 2, 3, 3}[weight]);
            Due.is("width of 4", desk.rectangle(4, 2), 2 + new int[] {4, 2, 1, 1}[weight]);
        }
        for (int weight : Due.outside(0, 3)) {
            refused(2, 2, 0, weight);
        }
    }

    private static void rootMayHaveThem() {
        Due.sentence("(the root may have them)");
        PaneDesk desk = new PaneDesk();
        desk.make(0, 0, 5, 5, 3, 3, 2);
        desk.make(0, 0, 5, 5, 4, 4, 3);
        Due.is("arrange(0, 2, 2, 3)", desk.arrange(0, 2, 2, 3), true);
        Due.rectangle(desk, 0, 0, 0, 32, 16);
        Due.rectangle(desk, 1, 0, 0, 32, 3);
        Due.rectangle(desk, 2, 0, 5, 32, 4);
        desk.arrange(0, 1, 3, 0);
        desk.arrange(1, 0, 0, 1);
        desk.arrange(2, 0, 0, 2);
        Due.rectangle(desk, 1, 0, 0, 3 + 7 + 1, 16);
        Due.rectangle(desk, 2, 14, 0, 4 + 14, 16);
        refused(0, 3, 0, 0);
        refused(0, 1, 4, 0);
        refused(0, 1, 0, 4);
    }

    private static void weightCountsOnlyInLines() {
        Due.sentence("Layout, gap and weight (which its parent's row or column looks at).");
        PaneDesk desk = panelOfThree(20, 12);
        desk.arrange(2, 0, 0, 3);
        Due.rectangle(desk, 2, 11, 10, 3, 4);
        desk.arrange(1, 1, 0, 3);
        Due.rectangle(desk, 1, 2, 1, 20, 12);
        Due.is("all that is left over", desk.rectangle(2, 2), 14);
    }

    private static void gapOfTheParent() {
        Due.sentence("each further one GAP (the parent's) behind the one before");
        PaneDesk desk = panelOfThree(20, 12);
        desk.arrange(1, 1, 2, 0);
        desk.arrange(2, 0, 3, 0);
        Due.is("left of 3", desk.rectangle(3, 0), 2 + 3 + 2);
        desk.arrange(1, 1, 3, 0);
        desk.arrange(3, 0, 0, 1);
        Due.is("gaps are not left over", desk.rectangle(3, 2), 4 + 20 - 9 - 6);
    }
}
