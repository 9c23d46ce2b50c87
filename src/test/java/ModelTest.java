/** Long runs of mixed calls, right and wrong ones: PaneDesk must answer as the model does, each time. */
public final class ModelTest {
    private static final int RUNS = 1500;
    // What an object is good for; drawing takes two of them, as the screen is looked at each time.
    private static final int CALLS = 510;

    // A sequence of its own, so that every run of the test makes the same calls.
    private static long seed;

    public static void main(String[] args) {
        for (int run = 0; run < RUNS; run++) {
            if (!agrees(run)) {
                System.exit(1);
            }
        }
        Due.end();
    }

    private static boolean agrees(int run) {
        seed = run * 7919L + 17;
        // Some runs fill the desk fast, some make many mistakes.
        int mistakes = run % 5 == 0 ? 4 : 40;
        PaneDesk desk = new PaneDesk();
        Model model = new Model();
        StringBuilder calls = new StringBuilder();
        for (int i = 0; i < CALLS; i++) {
            int method = i < 20 ? pick(3) == 0 ? 1 : 0 : pick(28);
            if (method == 20 || method == 21) {
                i++;
            }
            int[] a = arguments(method, mistakes);
            long got = onDesk(desk, method, a);
            long want = onModel(model, method, a);
            calls.append("  method ").append(method).append(' ').append(java.util.Arrays.toString(a))
                .append(" -> ").append(got).append('\n');
            if (got != want) {
                System.out.println("run " + run + ":\n" + calls + "due is " + want);
                return false;
            }
        }
        Due.is("run " + run + ": screen()", desk.screen(), model.screen());
        return true;
    }

    private static int pick(int bound) {
        seed = seed * 6364136223846793005L + 1442695040888963407L;
        return (int) ((seed >>> 33) % bound);
    }

    private static int number(int least, int greatest, int mistakes) {
        if (pick(mistakes) == 0) {
            int[] odd = {least - 1, greatest + 1, Integer.MIN_VALUE, Integer.MAX_VALUE, -1, 0, 12};
            return odd[pick(odd.length)];
        }
        return least + pick(greatest - least + 1);
    }

    private static int[] arguments(int method, int m) {
        switch (method) {
            case 0:
                return new int[] {pick(4) == 0 ? 0 : number(0, 11, m), number(0, 3, m), place(m), place(m),
                    number(1, 32, 2 * m), number(1, 32, 2 * m), number(0, 15, m)};
            case 1:
                return new int[] {number(0, 11, m), number(0, 2, m), number(0, 3, m), number(0, 3, m)};
            case 2:
                return new int[] {number(0, 11, m), place(m), place(m), number(1, 32, m), number(1, 32, m)};
            case 3:
                return new int[] {number(0, 11, m), number(-20, 20, m), number(-20, 20, m)};
            case 4:
            case 5:
                return new int[] {number(0, 11, m), number(0, 3, m), number(0, 2, m)};
            case 6:
            case 7:
                return new int[] {number(0, 11, m), number(0, 6, m), number(0, 11, m)};
            case 8:
                return new int[] {pick(3) == 0 ? number(0, 11, m) : 12};
            case 20:
            case 21:
                return new int[] {number(-1, 16, m), 0};
            case 22:
            case 23:
                return new int[] {number(0, 31, m), number(0, 15, m)};
            case 24:
                return new int[] {number(0, 11, m), number(0, 3, m)};
            case 25:
                return new int[] {number(0, 11, m), number(0, 5, m)};
            case 26:
                return new int[] {number(0, 2, m)};
            case 27:
                return new int[] {number(-1, 15, m)};
            default:
                return event(m);
        }
    }

    private static int place(int m) {
        return pick(3) == 0 ? number(-40, 40, m) : number(-2, 12, m);
    }

    private static int[] event(int m) {
        int kind = number(0, 4, m);
        if (kind == 3) {
            return new int[] {kind, pick(2) == 0 ? 0 : number(0, 9, m), number(0, 9, m)};
        }
        boolean same = pick(2) == 0;
        return new int[] {kind, same ? 4 : number(-8, 39, m), same ? 4 : number(-8, 23, m)};
    }

    private static long onDesk(PaneDesk x, int method, int[] a) {
        switch (method) {
            case 0: return x.make(a[0], a[1], a[2], a[3], a[4], a[5], a[6]);
            case 1: return x.arrange(a[0], a[1], a[2], a[3]) ? 1 : 0;
            case 2: return x.wish(a[0], a[1], a[2], a[3], a[4]) ? 1 : 0;
            case 3: return x.shift(a[0], a[1], a[2]) ? 1 : 0;
            case 4:
            case 5: return x.change(a[0], a[1], a[2]) ? 1 : 0;
            case 6:
            case 7: return x.effect(a[0], a[1], a[2]) ? 1 : 0;
            case 8: return x.remove(a[0]);
            case 20:
            case 21: return x.pump(a[0]) * 7L + x.screen();
            case 22: return x.pixel(a[0], a[1]);
            case 23: return x.at(a[0], a[1]);
            case 24: return x.rectangle(a[0], a[1]);
            case 25: return x.state(a[0], a[1]);
            case 26: return x.special(a[0]);
            case 27: return x.noted(a[0]);
            default: return x.post(a[0], a[1], a[2]);
        }
    }

    private static long onModel(Model x, int method, int[] a) {
        switch (method) {
            case 0: return x.make(a[0], a[1], a[2], a[3], a[4], a[5], a[6]);
            case 1: return x.arrange(a[0], a[1], a[2], a[3]);
            case 2: return x.wish(a[0], a[1], a[2], a[3], a[4]);
            case 3: return x.shift(a[0], a[1], a[2]);
            case 4:
            case 5: return x.change(a[0], a[1], a[2]);
            case 6:
            case 7: return x.effect(a[0], a[1], a[2]);
            case 8: return x.remove(a[0]);
            case 20:
            case 21: return x.pump(a[0]) * 7L + x.screen();
            case 22: return x.pixel(a[0], a[1]);
            case 23: return x.at(a[0], a[1]);
            case 24: return x.rectangle(a[0], a[1]);
            case 25: return x.state(a[0], a[1]);
            case 26: return x.special(a[0]);
            case 27: return x.noted(a[0]);
            default: return x.post(a[0], a[1], a[2]);
        }
    }
}
