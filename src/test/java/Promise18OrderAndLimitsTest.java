/** Promise 18: what is tested first, refused calls that change nothing, the wrapping sum, what is not drawn. */
public final class Promise18OrderAndLimitsTest {
    public static void main(String[] args) {
        refusedBeforeFull();
        refusedCallsChangeNothing();
        sumWraps();
        belowOneThatIsNotVisible();
        Due.end();
    }

    private static void refusedBeforeFull() {
        PaneDesk desk = new PaneDesk();
        for (int widget = 1; widget < 12; widget++) {
            desk.make(0, 0, 0, 0, 1, 1, 1);
        }
        Due.is("full", desk.make(0, 0, 0, 0, 1, 1, 1), -2);
        Due.is("parent", desk.make(12, 0, 0, 0, 1, 1, 1), -1);
        Due.is("kind", desk.make(0, 4, 0, 0, 1, 1, 1), -1);
        Due.is("x", desk.make(0, 0, 41, 0, 1, 1, 1), -1);
        Due.is("y", desk.make(0, 0, 0, 41, 1, 1, 1), -1);
        Due.is("w", desk.make(0, 0, 0, 0, 0, 1, 1), -1);
        Due.is("h", desk.make(0, 0, 0, 0, 1, 0, 1), -1);
        Due.is("colour", desk.make(0, 0, 0, 0, 1, 1, 16), -1);
        for (int i = 0; i < 16; i++) {
            desk.post(3, 1, 1);
        }
        Due.is("full", desk.post(3, 1, 1), -2);
        Due.is("kind", desk.post(5, 1, 1), -1);
        Due.is("x", desk.post(1, 40, 1), -1);
        Due.is("y", desk.post(2, 1, 24), -1);
        Due.is("key", desk.post(3, 10, 1), -1);
    }

    /** Two desks live the same life, but one is also called wrongly all the time: they must not differ. */
    private static void refusedCallsChangeNothing() {
        PaneDesk plain = new PaneDesk();
        PaneDesk teased = new PaneDesk();
        for (int step = 0; step < 12; step++) {
            live(plain, step);
            live(teased, step);
            tease(teased);
            Due.same("step " + step, Due.face(teased), Due.face(plain));
        }
    }

    private static void live(PaneDesk desk, int step) {
        switch (step) {
            case 0:
                desk.make(0, 0, 0, 0, 20, 8, 2);
                desk.make(1, 1, 1, 1, 4, 4, 3);
                desk.make(1, 2, 6, 1, 4, 4, 4);
                desk.make(0, 3, 22, 0, 8, 4, 5);
                break;
            case 1:
                desk.arrange(1, 1, 1, 1);
                desk.arrange(2, 0, 0, 2);
                desk.shift(1, 1, 1);
                break;
            case 2:
                desk.effect(2, 6, 3);
                desk.effect(3, 4, 1);
                break;
            case 3:
                for (int i = 0; i < 7; i++) {
                    desk.post(1, 1, 1);
                    desk.post(2, 1, 1);
                }
                desk.post(4, 0, 0);
                desk.post(0, 23, 1);
                break;
            case 7:
                for (int widget = 5; widget < 12; widget++) {
                    desk.make(4, 0, widget - 5, 1, 1, 1, widget);
                }
                break;
            case 9:
                desk.arrange(1, 2, 1, 1);
                desk.remove(4);
                break;
            default:
                desk.pump(3);
                break;
        }
    }

    private static void tease(PaneDesk desk) {
        int[] wrong = {-1, 12, 41, Integer.MIN_VALUE, Integer.MAX_VALUE};
        for (int n : wrong) {
            Due.is("make", desk.make(n, 0, 0, 0, 1, 1, 1), -1);
            Due.is("make", desk.make(0, n, 0, 0, 1, 1, 1), -1);
            Due.is("make", desk.make(0, 0, 0, 0, 1, 1, n == 12 ? 16 : n), -1);
            Due.is("remove", desk.remove(n), -1);
            Due.is("wish", desk.wish(n, 0, 0, 1, 1), false);
            Due.is("wish", desk.wish(1, 0, 0, 1, n == 12 ? 0 : n), false);
            Due.is("arrange", desk.arrange(n, 0, 0, 0), false);
            Due.is("arrange", desk.arrange(1, 2, 2, n), false);
            Due.is("shift", desk.shift(n, 0, 0), false);
            Due.is("shift", desk.shift(1, 5, n == 12 || n == -1 ? 21 : n), false);
            Due.is("change", desk.change(n, 1, 0), false);
            Due.is("change", desk.change(1, n, 0), false);
            Due.is("effect", desk.effect(n, 0, 0), false);
            Due.is("effect", desk.effect(2, 1, n), false);
            Due.is("effect", desk.effect(2, n, 1), false);
            Due.is("post", desk.post(n, 0, 0), -1);
            Due.is("post", desk.post(0, n == 12 || n == -1 ? 40 : n, 0), -1);
            Due.is("pump", desk.pump(n == 12 ? 17 : n), -1);
            Due.is("pixel", desk.pixel(0, n == 12 ? 16 : n), -1);
            Due.is("at", desk.at(0, n == 12 ? 16 : n), -1);
            Due.is("rectangle", desk.rectangle(n, 0), -1000);
            Due.is("state", desk.state(n, 0), -1);
            Due.is("special", desk.special(n), -2);
        }
        Due.is("remove", desk.remove(0), -1);
        Due.is("wish", desk.wish(0, 0, 0, 1, 1), false);
        Due.is("change", desk.change(0, 3, 1), false);
    }

    private static void sumWraps() {
        PaneDesk desk = new PaneDesk();
        desk.make(0, 0, 0, 0, 32, 16, 15);
        desk.pump(0);
        java.math.BigInteger sum = java.math.BigInteger.ZERO;
        for (int i = 0; i < 512; i++) {
            sum = sum.multiply(java.math.BigInteger.valueOf(31)).add(java.math.BigInteger.valueOf(15));
        }
        Due.is("screen()", desk.screen(), sum.intValue());
    }

    private static void belowOneThatIsNotVisible() {
        PaneDesk desk = new PaneDesk();
        desk.make(0, 0, 0, 0, 10, 10, 2);
        desk.make(1, 0, 0, 0, 10, 10, 3);
        desk.make(2, 3, 1, 1, 4, 4, 4);
        Due.click(desk, 2, 2);
        Due.specials(desk, 3, -1, 3);
        desk.change(1, 1, 0);
        desk.pump(0);
        for (int y = 0; y < 10; y++) {
            for (int x = 0; x < 10; x++) {
                Due.is("pixel(" + x + ", " + y + ")", desk.pixel(x, y), 1);
                Due.is("at(" + x + ", " + y + ")", desk.at(x, y), 0);
            }
        }
        Due.post(desk, 0, 2, 2);
        desk.pump(1);
        Due.specials(desk, 0, -1, 3);
        desk.change(1, 1, 1);
        desk.change(2, 1, 0);
        desk.pump(0);
        Due.is("pixel(1, 1)", desk.pixel(1, 1), 2);
        Due.is("at(1, 1)", desk.at(1, 1), 1);
    }
}
