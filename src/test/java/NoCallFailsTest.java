/**
 * Calls of all sorts with right and wildly wrong numbers, in any order: none may throw or fail to end, nor
 * may one do so after the 512 calls that an object is good for. What they answer is for the other tests.
 */
public final class NoCallFailsTest {
    private static final int DESKS = 60;
    private static final int CALLS = 20000;
    private static final int[] ODD = {
        Integer.MIN_VALUE, Integer.MIN_VALUE + 1, -1000, -41, -40, -21, -20, -9, -8, -2, -1, 0, 1, 3, 4, 11, 12,
        15, 16, 20, 21, 23, 24, 31, 32, 33, 39, 40, 41, 512, 1000, Integer.MAX_VALUE - 1, Integer.MAX_VALUE,
    };

    // A sequence of its own, so that every run of the test makes the same calls.
    private static long seed;

    public static void main(String[] args) {
        for (int i = 0; i < DESKS; i++) {
            seed = 31L * i + 5;
            // Some desks are asked for odd things all the time, some hardly ever, so that they fill up.
            use(new PaneDesk(), 2 + i % 6 * 10);
        }
    }

    private static int pick(int bound) {
        seed = seed * 6364136223846793005L + 1442695040888963407L;
        return (int) ((seed >>> 33) % bound);
    }

    private static int number(int least, int greatest, int oddity) {
        return pick(oddity) == 0 ? ODD[pick(ODD.length)] : least + pick(greatest - least + 1);
    }

    private static void use(PaneDesk desk, int oddity) {
        for (int i = 0; i < CALLS; i++) {
            int widget = number(0, 11, oddity);
            int a = number(-8, 20, oddity);
            int b = number(-8, 20, oddity);
            if (pick(2) == 0) {
                set(desk, widget, a, b, oddity);
            } else {
                ask(desk, widget, a, b, oddity);
            }
        }
    }

    private static void set(PaneDesk desk, int widget, int a, int b, int oddity) {
        switch (pick(10)) {
            case 0 -> desk.make(widget, number(0, 3, oddity), a, b, number(1, 32, oddity), number(1, 32, oddity), 9);
            case 1 -> desk.wish(widget, a, b, number(1, 32, oddity), number(1, 32, oddity));
            case 2 -> desk.arrange(widget, number(0, 2, oddity), number(0, 3, oddity), number(0, 3, oddity));
            case 3 -> desk.shift(widget, a, b);
            case 4 -> desk.change(widget, number(0, 3, oddity), number(0, 1, oddity));
            case 5 -> desk.effect(widget, number(0, 6, oddity), number(0, 11, oddity));
            case 6 -> desk.remove(pick(4) == 0 ? widget : ODD[pick(ODD.length)]);
            case 7 -> desk.pump(number(0, 16, oddity));
            default -> desk.post(number(0, 4, oddity), number(0, 9, oddity), b);
        }
    }

    private static void ask(PaneDesk desk, int widget, int a, int b, int oddity) {
        switch (pick(8)) {
            case 0 -> desk.pixel(a, b);
            case 1 -> desk.at(a, b);
            case 2 -> desk.rectangle(widget, number(0, 3, oddity));
            case 3 -> desk.state(widget, number(0, 5, oddity));
            case 4 -> desk.special(number(0, 2, oddity));
            case 5 -> desk.noted(number(-1, 15, oddity));
            case 6 -> desk.screen();
            default -> desk.post(number(0, 4, oddity), number(0, 9, oddity), b);
        }
    }
}
