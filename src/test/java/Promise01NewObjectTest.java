/** Promise 1: a new object. */
public final class Promise01NewObjectTest {
    public static void main(String[] args) {
        constants();
        theRootAlone();
        theScreenAll0();
        nothingNoted();
        nothingWaits();
        objectsOfTheirOwn();
        Due.end();
    }

    private static void constants() {
        Due.sentence("REFUSED = -1, FULL = -2");
        Due.is("REFUSED", PaneDesk.REFUSED, -1);
        Due.is("FULL", PaneDesk.FULL, -2);
    }

    private static void theRootAlone() {
        Due.sentence("The root alone");
        PaneDesk desk = new PaneDesk();
        Due.rectangle(desk, 0, 0, 0, 32, 16);
        int[] want = {0, 0, 1, 1, -1, 0};
        for (int what = 0; what < want.length; what++) {
            Due.is("state(0, " + what + ")", desk.state(0, what), want[what]);
        }
        for (int widget = 1; widget < 12; widget++) {
            Due.is("state(" + widget + ", 0)", desk.state(widget, 0), -1);
            Due.is("rectangle(" + widget + ", 0)", desk.rectangle(widget, 0), -1000);
            Due.is("remove(" + widget + ")", desk.remove(widget), -1);
        }
        Due.is("at(0, 0)", desk.at(0, 0), 0);
        Due.is("at(31, 15)", desk.at(31, 15), 0);
        Due.specials(desk, -1, -1, -1);
    }

    private static void theScreenAll0() {
        Due.sentence("the screen all 0");
        for (int half = 0; half < 2; half++) {
            PaneDesk desk = new PaneDesk();
            for (int y = 8 * half; y < 8 * half + 8; y++) {
                for (int x = 0; x < 32; x++) {
                    Due.is("pixel(" + x + ", " + y + ")", desk.pixel(x, y), 0);
                }
            }
            Due.is("screen()", desk.screen(), 0);
        }
    }

    private static void nothingNoted() {
        Due.sentence("nothing noted");
        PaneDesk desk = new PaneDesk();
        for (int k = -1; k < 16; k++) {
            Due.is("noted(" + k + ")", desk.noted(k), 0);
        }
    }

    private static void nothingWaits() {
        Due.sentence("EVENTS wait in a queue (of none at first)");
        PaneDesk desk = new PaneDesk();
        Due.is("pump(16)", desk.pump(16), 0);
        Due.is("pixel(31, 15) after pump", desk.pixel(31, 15), 1);
        Due.is("noted(-1)", desk.noted(-1), 0);
        Due.is("post(4, 0, 0)", desk.post(4, 0, 0), 1);
    }

    private static void objectsOfTheirOwn() {
        Due.sentence("A new object (whatever others there are)");
        PaneDesk old = new PaneDesk();
        Twins.crowded(old);
        PaneDesk desk = new PaneDesk();
        Due.is("children of the root", desk.state(0, 5), 0);
        Due.is("screen()", desk.screen(), 0);
        Due.is("noted(-1)", desk.noted(-1), 0);
        Due.is("pump(16)", desk.pump(16), 0);
        Due.is("make", desk.make(0, 0, 0, 0, 1, 1, 1), 1);
        Due.is("the old one is full", old.make(0, 0, 0, 0, 1, 1, 1), -2);
        Due.is("the old one's events wait", old.pump(16), 16);
    }
}
