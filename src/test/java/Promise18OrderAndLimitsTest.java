/** Promise 18: order and limits. */
public final class Promise18OrderAndLimitsTest {
    public static void main(String[] args) {
        makeRefusedBeforeFull();
        postRefusedBeforeFull();
        refusedWhenFullChangesNothing();
        questionsChangeNothing();
        sumWraps();
        belowOneThatIsNotVisibleIsNotDrawn();
        belowOneThatIsNotVisibleIsAtNoPixel();
        belowOneThatIsNotVisibleNothingIsOver();
        Due.end();
    }

    private static void makeRefusedBeforeFull() {
        Due.sentence("make, post: REFUSED is tested before FULL (make).");
        int[][] wrong = {
            {12, 0, 0, 0, 1, 1, 1}, {-1, 0, 0, 0, 1, 1, 1},
            {0, 4, 0, 0, 1, 1, 1}, {0, -1, 0, 0, 1, 1, 1},
            {0, 0, 41, 0, 1, 1, 1}, {0, 0, -41, 0, 1, 1, 1},
            {0, 0, 0, 41, 1, 1, 1}, {0, 0, 0, -41, 1, 1, 1},
            {0, 0, 0, 0, 0, 1, 1}, {0, 0, 0, 0, 33, 1, 1},
            {0, 0, 0, 0, 1, 0, 1}, {0, 0, 0, 0, 1, 33, 1},
            {0, 0, 0, 0, 1, 1, -1}, {0, 0, 0, 0, 1, 1, 16},
        };
        PaneDesk desk = new PaneDesk();
        Twins.crowded(desk);
        Due.is("full", desk.make(0, 0, 0, 0, 1, 1, 1), -2);
        for (int[] a : wrong) {
            Due.is("make" + java.util.Arrays.toString(a), desk.make(a[0], a[1], a[2], a[3], a[4], a[5], a[6]), -1);
        }
    }

    private static void postRefusedBeforeFull() {
        Due.sentence("make, post: REFUSED is tested before FULL (post).");
        int[][] wrong = {
            {-1, 1, 1}, {5, 1, 1}, {0, 40, 1}, {0, -9, 1}, {1, 40, 1}, {1, -9, 1}, {2, 40, 1}, {2, -9, 1},
            {0, 1, 24}, {0, 1, -9}, {1, 1, 24}, {1, 1, -9}, {2, 1, 24}, {2, 1, -9}, {3, -1, 0}, {3, 10, 0},
        };
        PaneDesk desk = new PaneDesk();
        Twins.crowded(desk);
        Due.is("full", desk.post(3, 1, 1), -2);
        for (int[] a : wrong) {
            Due.is("post" + java.util.Arrays.toString(a), desk.post(a[0], a[1], a[2]), -1);
        }
    }

    private static void refusedWhenFullChangesNothing() {
        Due.sentence("A call that is refused, because [...] a limit is reached, changes nothing.");
        Twins.changesNothing("calls on a full desk", Twins::crowded, desk -> {
            for (int i = 0; i < 3; i++) {
                Due.is("make", desk.make(i, 1, 2, 2, 3, 3, 4), -2);
                Due.is("make", desk.make(12, 1, 2, 2, 3, 3, 4), -1);
                Due.is("post", desk.post(i, 5, 5), -2);
                Due.is("post", desk.post(4, 5, 5), -2);
                Due.is("post", desk.post(5, 5, 5), -1);
            }
        });
    }

    private static void questionsChangeNothing() {
        Due.sentence("A call that is refused, because a number is not as said there, something is not there [...], changes nothing.");
        Twins.changesNothing("questions", Twins::lively, desk -> {
            for (int n : new int[] {-1, 12, 40, Integer.MIN_VALUE, Integer.MAX_VALUE}) {
                Due.is("pixel", desk.pixel(n == 12 ? 32 : n, 0), -1);
                Due.is("at", desk.at(n == 12 ? 32 : n, 0), -1);
                Due.is("rectangle", desk.rectangle(n, 0), -1000);
                Due.is("rectangle", desk.rectangle(1, n), -1000);
                Due.is("state", desk.state(n, 0), -1);
                Due.is("state", desk.state(1, n), -1);
                Due.is("special", desk.special(n), -2);
                desk.noted(n);
                desk.screen();
            }
        });
    }

    private static void sumWraps() {
        Due.sentence("screen: the sum wraps as ints do.");
        for (int colour = 1; colour <= 15; colour += 14) {
            PaneDesk desk = new PaneDesk();
            desk.make(0, 0, 0, 0, 32, 16, colour);
            desk.pump(0);
            java.math.BigInteger sum = java.math.BigInteger.ZERO;
            for (int i = 0; i < 512; i++) {
                sum = sum.multiply(java.math.BigInteger.valueOf(31)).add(java.math.BigInteger.valueOf(colour));
            }
            Due.is("screen()", desk.screen(), sum.intValue());
        }
    }

    /** A field 3 in a panel 2 in a panel 1; the field has the FOCUS. */
    private static PaneDesk nested() {
        PaneDesk desk = new PaneDesk();
        desk.make(0, 0, 0, 0, 10, 10, 2);
        desk.make(1, 0, 0, 0, 10, 10, 3);
        desk.make(2, 3, 1, 1, 4, 4, 4);
        Due.click(desk, 2, 2);
        Due.specials(desk, 3, -1, 3);
        return desk;
    }

    private static void belowOneThatIsNotVisibleIsNotDrawn() {
        Due.sentence("A widget that has an ancestor that is not visible is not drawn");
        int[] hidden = {0, 1, 2};
        int[] left = {0, 1, 2};
        for (int i = 0; i < hidden.length; i++) {
            PaneDesk desk = nested();
            desk.change(hidden[i], 1, 0);
            desk.pump(0);
            for (int y = 0; y < 10; y++) {
                for (int x = 0; x < 10; x++) {
                    Due.is("pixel(" + x + ", " + y + ")", desk.pixel(x, y), left[i]);
                }
            }
        }
    }

    private static void belowOneThatIsNotVisibleIsAtNoPixel() {
        Due.sentence("A widget that has an ancestor that is not visible [...] is AT no pixel.");
        int[] hidden = {0, 1, 2};
        int[] left = {-1, 0, 1};
        for (int i = 0; i < hidden.length; i++) {
            PaneDesk desk = nested();
            desk.change(hidden[i], 1, 0);
            for (int y = 0; y < 10; y++) {
                for (int x = 0; x < 10; x++) {
                    Due.is("at(" + x + ", " + y + ")", desk.at(x, y), left[i]);
                }
            }
        }
    }

    private static void belowOneThatIsNotVisibleNothingIsOver() {
        PaneDesk desk = nested();
        desk.change(1, 1, 0);
        Due.post(desk, 0, 2, 2);
        desk.pump(1);
        Due.specials(desk, 0, -1, 3);
        desk.change(1, 1, 1);
        desk.change(2, 1, 0);
        Due.post(desk, 1, 2, 2);
        desk.pump(1);
        Due.specials(desk, 1, 1, 3);
    }
}
