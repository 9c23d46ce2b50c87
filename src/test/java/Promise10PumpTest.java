/** Promise 10: pump. How each event is carried out is in TermsEventsTest, TermsTabTest and TermsActingTest. */
public final class Promise10PumpTest {
    public static void main(String[] args) {
        theFirstOnes();
        theFirstOnesAlone();
        nOf0();
        nOf16();
        allIfThereAreFewer();
        noneWaits();
        thenDrawsTheScreenAnew();
        drawsNothingOfWhatWasBefore();
        drawsOnceAtTheEnd();
        refusedForAnotherN();
        queueUsedAgainAndAgain();
        Due.end();
    }

    private static PaneDesk row() {
        PaneDesk desk = new PaneDesk();
        desk.make(0, 1, 0, 0, 4, 4, 3);
        desk.make(0, 2, 5, 0, 4, 4, 4);
        desk.make(0, 3, 10, 0, 4, 4, 5);
        desk.make(0, 0, 15, 0, 4, 4, 6);
        return desk;
    }

    private static void theFirstOnes() {
        Due.sentence("Carries out the first n events that wait [...] how many");
        PaneDesk desk = row();
        for (int i = 0; i < 10; i++) {
            desk.post(3, i, 0);
        }
        Due.is("pump(3)", desk.pump(3), 3);
        Due.is("pump(7)", desk.pump(7), 7);
        desk.post(4, 0, 0);
        desk.post(4, 0, 0);
        Due.is("pump(1)", desk.pump(1), 1);
        Due.specials(desk, -1, -1, 1);
        Due.is("pump(1)", desk.pump(1), 1);
        Due.specials(desk, -1, -1, 2);
        Due.is("pump(1)", desk.pump(1), 0);
    }

    private static void theFirstOnesAlone() {
        PaneDesk desk = row();
        Due.post(desk, 1, 11, 1);
        Due.post(desk, 2, 12, 2);
        for (int k = 1; k < 10; k++) {
            Due.post(desk, 3, k, 0);
        }
        Due.post(desk, 0, 6, 1);
        Due.is("pump(1)", desk.pump(1), 1);
        Due.specials(desk, 3, 3, 3);
        Due.is("pump(3)", desk.pump(3), 3);
        Due.specials(desk, 3, -1, 3);
        Due.is("two keys", desk.state(3, 0), 12);
        Due.is("pump(2)", desk.pump(2), 2);
        Due.is("two keys more", desk.state(3, 0), 234);
        Due.is("post behind those that wait", desk.post(4, 0, 0), 7);
        Due.is("pump(5)", desk.pump(5), 5);
        Due.is("the last keys", desk.state(3, 0), 789);
        Due.is("pump(1)", desk.pump(1), 1);
        Due.specials(desk, 2, -1, 3);
        Due.is("pump(16)", desk.pump(16), 1);
        Due.specials(desk, 2, -1, 1);
    }

    private static void nOf0() {
        Due.sentence("n events that wait (0 .. 16");
        PaneDesk desk = row();
        desk.post(1, 1, 1);
        desk.post(2, 1, 1);
        Due.is("pump(0)", desk.pump(0), 0);
        Due.specials(desk, -1, -1, -1);
        Due.notes(desk, 0, 0);
        Due.is("but it draws", desk.pixel(1, 1), 3);
        Due.is("both still wait", desk.post(4, 0, 0), 3);
        Due.is("pump(16)", desk.pump(16), 3);
    }

    private static void nOf16() {
        PaneDesk desk = row();
        desk.post(4, 0, 0);
        desk.post(4, 0, 0);
        desk.post(4, 0, 0);
        for (int i = 0; i < 12; i++) {
            desk.post(3, i % 10, 0);
        }
        Due.is("the sixteenth", desk.post(1, 1, 1), 16);
        Due.is("pump(16)", desk.pump(16), 16);
        Due.is("value", desk.state(3, 0), 901);
        Due.specials(desk, 1, 1, 1);
        Due.is("none waits any more", desk.post(4, 0, 0), 1);
        PaneDesk other = row();
        for (int i = 0; i < 16; i++) {
            other.post(4, 0, 0);
        }
        Due.is("pump(15)", other.pump(15), 15);
        Due.specials(other, -1, -1, 3);
        Due.is("one waits", other.pump(16), 1);
        Due.specials(other, -1, -1, 1);
    }

    private static void allIfThereAreFewer() {
        Due.sentence("all if there are fewer");
        for (int n = 2; n <= 16; n++) {
            PaneDesk desk = row();
            desk.post(4, 0, 0);
            desk.post(4, 0, 0);
            Due.is("pump(" + n + ")", desk.pump(n), 2);
            Due.specials(desk, -1, -1, 2);
            Due.is("pump(16)", desk.pump(16), 0);
        }
    }

    private static void noneWaits() {
        for (int n = 0; n <= 16; n++) {
            PaneDesk desk = row();
            Due.is("pump(" + n + ")", desk.pump(n), 0);
            Due.notes(desk, 0, 0);
            Due.is("but it draws", desk.pixel(1, 1), 3);
        }
    }

    private static void thenDrawsTheScreenAnew() {
        Due.sentence("then draws the screen anew");
        PaneDesk desk = row();
        Due.is("nothing is drawn before", desk.screen(), 0);
        desk.post(1, 6, 1);
        Due.is("post draws nothing", desk.screen(), 0);
        desk.post(2, 6, 1);
        desk.pump(1);
        Due.is("not on yet", desk.pixel(6, 1), 4);
        Due.is("rim", desk.pixel(5, 0), 15);
        desk.pump(1);
        Due.is("on", desk.pixel(6, 1), 12);
        desk.change(2, 0, 2);
        Due.is("as drawn", desk.pixel(6, 1), 12);
        desk.pump(0);
        Due.is("drawn anew", desk.pixel(6, 1), 10);
    }

    private static void drawsNothingOfWhatWasBefore() {
        PaneDesk desk = row();
        desk.pump(0);
        Due.is("pixel(1, 1)", desk.pixel(1, 1), 3);
        desk.change(0, 0, 0);
        desk.change(1, 1, 0);
        desk.pump(0);
        Due.is("nothing is left of what was drawn", desk.pixel(1, 1), 0);
        Due.is("pixel(30, 10)", desk.pixel(30, 10), 0);
        Due.is("pixel(6, 1)", desk.pixel(6, 1), 4);
    }

    private static void drawsOnceAtTheEnd() {
        Due.sentence("Carries out the first n events that wait [...], then draws");
        PaneDesk desk = row();
        desk.effect(1, 1, 2);
        desk.post(1, 1, 1);
        desk.post(2, 1, 1);
        desk.post(3, 0, 0);
        desk.post(1, 11, 1);
        desk.pump(16);
        Due.is("shown again", desk.pixel(6, 1), 4);
        Due.is("no rim any more", desk.pixel(0, 0), 3);
        Due.is("rim", desk.pixel(10, 0), 15);
    }

    private static void refusedForAnotherN() {
        Due.sentence("REFUSED for another n");
        for (int n : Due.outside(0, 16)) {
            String call = "pump(" + n + ")";
            Twins.changesNothing(call, Twins::lively, desk -> Due.is(call, desk.pump(n), -1));
            Twins.changesNothing(call, Twins::crowded, desk -> Due.is(call, desk.pump(n), -1));
            PaneDesk desk = row();
            desk.post(1, 1, 1);
            Due.is(call, desk.pump(n), -1);
            Due.is("nothing is drawn", desk.screen(), 0);
            Due.is("it still waits", desk.pump(16), 1);
        }
    }

    private static void queueUsedAgainAndAgain() {
        Due.sentence("EVENTS wait in a queue of at most 16");
        PaneDesk desk = row();
        desk.post(1, 11, 1);
        desk.pump(1);
        int value = 0;
        int typed = 0;
        int waiting = 0;
        for (int round = 0; round < 20; round++) {
            for (int i = 0; i < 7 && waiting < 16; i++) {
                waiting++;
                Due.is("post", desk.post(3, (typed + waiting) % 10, 0), waiting);
            }
            int n = 3 + round % 5;
            Due.is("pump(" + n + ")", desk.pump(n), n);
            for (int i = 0; i < n; i++) {
                typed++;
                value = (10 * value + typed % 10) % 1000;
            }
            waiting -= n;
            Due.is("value", desk.state(3, 0), value);
        }
    }
}
