/** Terms: rectangles by hand, in rows and in columns. */
public final class TermsRectanglesTest {
    public static void main(String[] args) {
        theRootsIsItsWish();
        byHand();
        byHandFarOutside();
        inALineTheLowestFirst();
        inALineOnlyThoseThatAreVisible();
        inALineWithoutAVisibleOne();
        firstOneLessTheShift();
        gapOnlyBetween();
        asHighAsTheParent();
        leftOverLessThan0();
        leftOver0();
        leftOver1();
        leftOverByThemAndTheGaps();
        noneWithAWeight();
        oneWithAWeight();
        noFraction();
        firstOnesOneMore();
        firstOnesWithAWeightAlone();
        allOfElevenInARow();
        weightOfOneThatIsHidden();
        weightOfOneThatWasTakenAway();
        columnsLikewise();
        linesInLines();
        hiddenParent();
        Due.end();
    }

    /** A panel 1 at (2, 1) in a line with children of the given lengths along it, 2, 3, ... */
    private static PaneDesk line(int axis, int length, int gap, int... lengths) {
        PaneDesk desk = new PaneDesk();
        desk.make(0, 0, 2, 1, axis == 0 ? length : 9, axis == 0 ? 9 : length, 2);
        desk.arrange(1, 1 + axis, gap, 0);
        for (int one : lengths) {
            desk.make(1, 0, 17, -17, axis == 0 ? one : 5, axis == 0 ? 5 : one, 3);
        }
        return desk;
    }

    private static void weights(PaneDesk desk, int... weights) {
        for (int i = 0; i < weights.length; i++) {
            Due.is("arrange", desk.arrange(2 + i, 0, 0, weights[i]), true);
        }
    }

    /** The children stand one behind the other with these lengths, the first one at the start. */
    private static void lengths(PaneDesk desk, int axis, int gap, int... lengths) {
        int place = axis == 0 ? 2 : 1;
        for (int i = 0; i < lengths.length; i++) {
            if (axis == 0) {
                Due.rectangle(desk, 2 + i, place, 1, lengths[i], 9);
            } else {
                Due.rectangle(desk, 2 + i, 2, place, 9, lengths[i]);
            }
            place += lengths[i] + gap;
        }
    }

    private static void theRootsIsItsWish() {
        Due.sentence("The root's is its wish.");
        PaneDesk desk = new PaneDesk();
        desk.make(0, 0, 0, 0, 32, 32, 2);
        desk.make(0, 0, 0, 0, 32, 32, 2);
        for (int layout = 0; layout <= 2; layout++) {
            desk.arrange(0, layout, 3, 3);
            desk.shift(0, 20, -20);
            Due.rectangle(desk, 0, 0, 0, 32, 16);
        }
    }

    private static void byHand() {
        Due.sentence("a child's upper left pixel is the parent's, plus its wish's place, less the parent's shift");
        PaneDesk desk = new PaneDesk();
        desk.make(0, 0, 4, 3, 20, 10, 2);
        desk.make(1, 0, 5, -6, 2, 3, 3);
        Due.rectangle(desk, 2, 9, -3, 2, 3);
        desk.shift(1, 2, -4);
        Due.rectangle(desk, 2, 7, 1, 2, 3);
        desk.shift(2, 9, 9);
        Due.rectangle(desk, 2, 7, 1, 2, 3);
        desk.change(2, 1, 0);
        Due.rectangle(desk, 2, 7, 1, 2, 3);
        desk.arrange(2, 1, 3, 3);
        desk.arrange(1, 0, 3, 3);
        Due.rectangle(desk, 2, 7, 1, 2, 3);
    }

    private static void byHandFarOutside() {
        PaneDesk desk = new PaneDesk();
        for (int widget = 1; widget < 12; widget++) {
            desk.shift(widget - 1, 20, -20);
            desk.make(widget - 1, 0, -40, 40, 32, 32, 2);
            Due.rectangle(desk, widget, -60 * widget, 60 * widget, 32, 32);
        }
        desk.wish(1, 40, -40, 1, 1);
        Due.rectangle(desk, 11, 20 - 600, -20 + 600, 32, 32);
    }

    private static void inALineTheLowestFirst() {
        Due.sentence("stand from the left to the right, the lowest first");
        for (int axis = 0; axis < 2; axis++) {
            PaneDesk desk = line(axis, 12, 1, 2, 3, 4);
            lengths(desk, axis, 1, 2, 3, 4);
            desk.change(4, 3, 0);
            int start = axis == 0 ? 2 : 1;
            Due.is("lowest", desk.rectangle(4, axis), start);
            Due.is("second", desk.rectangle(2, axis), start + 5);
            Due.is("third", desk.rectangle(3, axis), start + 8);
            desk.change(2, 3, 1);
            Due.is("second", desk.rectangle(3, axis), start + 5);
            Due.is("highest", desk.rectangle(2, axis), start + 9);
        }
    }

    private static void inALineOnlyThoseThatAreVisible() {
        Due.sentence("In a ROW the children that are visible stand from the left to the right");
        for (int axis = 0; axis < 2; axis++) {
            int start = axis == 0 ? 2 : 1;
            for (int hidden = 2; hidden <= 4; hidden++) {
                PaneDesk desk = line(axis, 12, 1, 2, 3, 4);
                desk.change(hidden, 1, 0);
                int place = start;
                for (int widget = 2; widget <= 4; widget++) {
                    if (widget != hidden) {
                        Due.is("place of " + widget, desk.rectangle(widget, axis), place);
                        place += widget + 1;
                    }
                }
            }
        }
    }

    private static void inALineWithoutAVisibleOne() {
        for (int axis = 0; axis < 2; axis++) {
            PaneDesk desk = line(axis, 12, 3, 2, 3);
            weights(desk, 1, 2);
            desk.change(2, 1, 0);
            desk.change(3, 1, 0);
            Due.rectangle(desk, 2, 2, 1, axis == 0 ? 2 : 5, axis == 0 ? 5 : 2);
            Due.rectangle(desk, 3, 2, 1, axis == 0 ? 3 : 5, axis == 0 ? 5 : 3);
            PaneDesk empty = line(axis, 12, 3);
            Due.rectangle(empty, 1, 2, 1, axis == 0 ? 12 : 9, axis == 0 ? 9 : 12);
        }
    }

    private static void firstOneLessTheShift() {
        Due.sentence("the first one at the parent's upper left pixel less its shift");
        int[] shifts = {-20, -1, 0, 1, 20};
        for (int x : shifts) {
            for (int y : shifts) {
                PaneDesk row = line(0, 12, 1, 2, 3);
                row.shift(1, x, y);
                Due.rectangle(row, 2, 2 - x, 1 - y, 2, 9);
                Due.rectangle(row, 3, 5 - x, 1 - y, 3, 9);
                PaneDesk column = line(1, 12, 1, 2, 3);
                column.shift(1, x, y);
                Due.rectangle(column, 2, 2 - x, 1 - y, 9, 2);
                Due.rectangle(column, 3, 2 - x, 4 - y, 9, 3);
            }
        }
        PaneDesk row = line(0, 12, 1, 2, 3);
        row.shift(2, 5, 5);
        lengths(row, 0, 1, 2, 3);
    }

    private static void gapOnlyBetween() {
        Due.sentence("each further one GAP (the parent's) behind the one before");
        for (int axis = 0; axis < 2; axis++) {
            for (int gap = 0; gap <= 3; gap++) {
                lengths(line(axis, 20, gap, 1, 2, 1), axis, gap, 1, 2, 1);
                PaneDesk one = line(axis, 20, gap, 5);
                weights(one, 1);
                lengths(one, axis, gap, 20);
            }
        }
    }

    private static void asHighAsTheParent() {
        Due.sentence("all are as high as the parent; each is as wide as its wish");
        PaneDesk row = line(0, 30, 0, 1, 2, 3);
        row.wish(3, 0, 0, 7, 32);
        lengths(row, 0, 0, 1, 7, 3);
        row.wish(1, 2, 1, 30, 1);
        Due.rectangle(row, 2, 2, 1, 1, 1);
        Due.rectangle(row, 3, 3, 1, 7, 1);
    }

    private static void leftOverLessThan0() {
        Due.sentence("what of the parent's width is left over by them and the gaps, if more than 0");
        for (int axis = 0; axis < 2; axis++) {
            for (int length = 1; length < 12; length++) {
                PaneDesk desk = line(axis, length, 1, 3, 4, 3);
                weights(desk, 1, 2, 3);
                lengths(desk, axis, 1, 3, 4, 3);
                weights(desk, 0, 2, 0);
                lengths(desk, axis, 1, 3, 4, 3);
            }
            PaneDesk far = line(axis, 1, 3, 32, 32, 32, 32, 32, 32, 32, 32, 32, 32);
            weights(far, 3, 3, 3, 3, 3, 3, 3, 3, 3, 3);
            lengths(far, axis, 3, 32, 32, 32, 32, 32, 32, 32, 32, 32, 32);
        }
    }

    private static void leftOver0() {
        for (int axis = 0; axis < 2; axis++) {
            PaneDesk desk = line(axis, 12, 1, 3, 4, 3);
            weights(desk, 1, 2, 3);
            lengths(desk, axis, 1, 3, 4, 3);
        }
    }

    private static void leftOver1() {
        for (int axis = 0; axis < 2; axis++) {
            PaneDesk desk = line(axis, 13, 1, 3, 4, 3);
            weights(desk, 1, 2, 3);
            lengths(desk, axis, 1, 4, 4, 3);
            weights(desk, 0, 2, 3);
            lengths(desk, axis, 1, 3, 5, 3);
            weights(desk, 0, 0, 3);
            lengths(desk, axis, 1, 3, 4, 4);
        }
    }

    private static void leftOverByThemAndTheGaps() {
        Due.sentence("left over by them and the gaps");
        for (int axis = 0; axis < 2; axis++) {
            for (int gap = 0; gap <= 3; gap++) {
                PaneDesk desk = line(axis, 20, gap, 3, 4, 3);
                weights(desk, 0, 1, 0);
                lengths(desk, axis, gap, 3, 4 + 10 - 2 * gap, 3);
            }
        }
    }

    private static void noneWithAWeight() {
        Due.sentence("is divided among those with a weight");
        for (int axis = 0; axis < 2; axis++) {
            PaneDesk desk = line(axis, 30, 2, 3, 4, 3);
            lengths(desk, axis, 2, 3, 4, 3);
        }
    }

    private static void oneWithAWeight() {
        for (int axis = 0; axis < 2; axis++) {
            for (int weight = 1; weight <= 3; weight++) {
                PaneDesk desk = line(axis, 30, 0, 3, 4, 3);
                weights(desk, 0, 0, weight);
                lengths(desk, axis, 0, 3, 4, 3 + 20);
                weights(desk, weight, 0, 0);
                lengths(desk, axis, 0, 3 + 20, 4, 3);
            }
        }
    }

    private static void noFraction() {
        Due.sentence("each gets (left over * its weight) / (sum of the weights) (no fraction)");
        for (int axis = 0; axis < 2; axis++) {
            PaneDesk even = line(axis, 22, 0, 3, 4, 3);
            weights(even, 1, 2, 3);
            lengths(even, axis, 0, 3 + 2, 4 + 4, 3 + 6);
            // 15 * 1 / 4 is 3.75, 15 * 3 / 4 is 11.25.
            PaneDesk odd = line(axis, 25, 0, 3, 4, 3);
            weights(odd, 1, 0, 3);
            lengths(odd, axis, 0, 3 + 3 + 1, 4, 3 + 11);
            // The fraction that is nearer to one more does not count: 15 * 3 / 4 comes first here.
            weights(odd, 3, 0, 1);
            lengths(odd, axis, 0, 3 + 11 + 1, 4, 3 + 3);
        }
    }

    private static void firstOnesOneMore() {
        Due.sentence("and then of those the first ones one more each till nothing is left");
        int[][] more = {{0, 0, 0}, {1, 0, 0}, {1, 1, 0}, {1, 1, 1}, {2, 1, 1}, {2, 2, 1}, {2, 2, 2}};
        for (int axis = 0; axis < 2; axis++) {
            for (int left = 0; left < more.length; left++) {
                PaneDesk desk = line(axis, 10 + left, 0, 3, 4, 3);
                weights(desk, 2, 2, 2);
                lengths(desk, axis, 0, 3 + more[left][0], 4 + more[left][1], 3 + more[left][2]);
            }
        }
    }

    private static void firstOnesWithAWeightAlone() {
        Due.sentence("of those the first ones (of those with a weight)");
        for (int axis = 0; axis < 2; axis++) {
            PaneDesk desk = line(axis, 13, 0, 1, 2, 1, 2, 1, 1);
            weights(desk, 0, 3, 0, 3, 1, 0);
            // Five are left over: 2.1, 2.1 and 0.7.
            lengths(desk, axis, 0, 1, 2 + 2 + 1, 1, 2 + 2, 1, 1);
            desk.change(2, 3, 1);
            desk.change(3, 3, 1);
            Due.is("now it is the last of them", desk.rectangle(3, 2 + axis), 2 + 2);
            Due.is("now it is the first of them", desk.rectangle(5, 2 + axis), 2 + 2 + 1);
        }
    }

    private static void allOfElevenInARow() {
        Due.sentence("each gets (left over * its weight) / (sum of the weights) (all there can be)");
        PaneDesk desk = new PaneDesk();
        desk.arrange(0, 1, 0, 0);
        int sum = 0;
        for (int widget = 1; widget < 12; widget++) {
            desk.make(0, 0, 0, 0, 1, 1, 2);
            desk.arrange(widget, 0, 0, 3);
            sum += 3;
        }
        // 21 * 3 / 33 is 1 for each of eleven; ten are left for the first ten.
        int place = 0;
        for (int widget = 1; widget < 12; widget++) {
            int width = 1 + 21 * 3 / sum + (widget <= 10 ? 1 : 0);
            Due.rectangle(desk, widget, place, 0, width, 16);
            place += width;
        }
        Due.is("nothing is left", place, 32);
    }

    private static void weightOfOneThatIsHidden() {
        Due.sentence("the children that are visible [...] what [...] is left over by them");
        for (int axis = 0; axis < 2; axis++) {
            PaneDesk desk = line(axis, 20, 2, 3, 4, 3);
            weights(desk, 1, 3, 1);
            desk.change(3, 1, 0);
            int start = axis == 0 ? 2 : 1;
            Due.is("length of 2", desk.rectangle(2, 2 + axis), 3 + 6);
            Due.is("place of 4", desk.rectangle(4, axis), start + 9 + 2);
            Due.is("length of 4", desk.rectangle(4, 2 + axis), 3 + 6);
            Due.is("length of 3", desk.rectangle(3, 2 + axis), 4);
        }
    }

    private static void weightOfOneThatWasTakenAway() {
        for (int axis = 0; axis < 2; axis++) {
            for (int taken = 2; taken <= 4; taken++) {
                PaneDesk desk = line(axis, 20, 0, 3, 3, 3);
                weights(desk, 2, 2, 2);
                desk.remove(taken);
                int first = taken == 2 ? 3 : 2;
                int second = taken == 4 ? 3 : 4;
                // Fourteen are left over for the other two.
                Due.is("length", desk.rectangle(first, 2 + axis), 3 + 7);
                Due.is("length", desk.rectangle(second, 2 + axis), 3 + 7);
                desk.wish(1, 2, 1, 19, 19);
                Due.is("length", desk.rectangle(first, 2 + axis), 3 + 7);
                Due.is("length", desk.rectangle(second, 2 + axis), 3 + 6);
                // A later one of that number has no weight and takes three of the thirteen.
                Due.is("make", desk.make(1, 0, 0, 0, 3, 3, 3), taken);
                Due.is("length", desk.rectangle(first, 2 + axis), 3 + 5);
                Due.is("length", desk.rectangle(second, 2 + axis), 3 + 5);
                Due.is("length", desk.rectangle(taken, 2 + axis), 3);
            }
        }
    }

    private static void columnsLikewise() {
        Due.sentence("COLUMNS likewise with heights, from the top downwards.");
        PaneDesk desk = line(1, 14, 1, 3, 4, 3);
        lengths(desk, 1, 1, 3, 4, 3);
        weights(desk, 1, 0, 1);
        lengths(desk, 1, 1, 4, 4, 4);
        desk.wish(3, 0, 0, 32, 4);
        Due.rectangle(desk, 3, 2, 6, 9, 4);
        desk.arrange(1, 1, 0, 0);
        Due.rectangle(desk, 2, 2, 1, 5, 14);
        Due.rectangle(desk, 3, 7, 1, 32, 14);
    }

    private static void linesInLines() {
        Due.sentence("what of the parent's width is left over (its rectangle's, not its wish's)");
        PaneDesk desk = line(0, 20, 0, 3, 4, 2);
        weights(desk, 0, 1, 0);
        desk.arrange(3, 2, 1, 1);
        desk.make(3, 0, 0, 0, 1, 2, 6);
        desk.make(3, 0, 0, 0, 1, 2, 7);
        desk.arrange(6, 1, 0, 1);
        Due.rectangle(desk, 3, 5, 1, 15, 9);
        Due.rectangle(desk, 5, 5, 1, 15, 2);
        Due.rectangle(desk, 6, 5, 4, 15, 6);
        desk.make(6, 0, 0, 0, 1, 1, 8);
        desk.arrange(7, 0, 0, 2);
        Due.rectangle(desk, 7, 5, 4, 15, 6);
    }

    private static void hiddenParent() {
        Due.sentence("In a ROW the children that are visible (though their parent may not be)");
        PaneDesk desk = line(0, 20, 1, 3, 4);
        weights(desk, 1, 1);
        desk.change(1, 1, 0);
        lengths(desk, 0, 1, 9, 10);
        desk.change(0, 1, 0);
        lengths(desk, 0, 1, 9, 10);
    }
}
