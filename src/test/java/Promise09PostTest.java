import java.util.Arrays;

/** Promise 9: post. */
public final class Promise09PostTest {
    public static void main(String[] args) {
        howManyWait();
        kindNot0To4();
        xNotMinus8To39();
        yNotMinus8To23();
        keyNot0To9();
        numbersThatAnEventDoesNotHave();
        fullWith16();
        notFullForAMoveThatTakesAPlace();
        fullForAMoveThatTakesNone();
        Due.end();
    }

    private static void refused(int... a) {
        String call = "post" + Arrays.toString(a);
        // A MOVE waits last there, so one that is refused must not take its place either.
        Twins.changesNothing(call, Twins::lively, desk -> Due.is(call, desk.post(a[0], a[1], a[2]), -1));
    }

    private static void howManyWait() {
        Due.sentence("Appends an event: [...] how many wait then.");
        PaneDesk desk = new PaneDesk();
        for (int kind = 0; kind < 5; kind++) {
            Due.is("post(" + kind + ", 1, 1)", desk.post(kind, 1, 1), kind + 1);
        }
        Due.is("nothing happens yet", desk.noted(-1), 0);
        Due.specials(desk, -1, -1, -1);
        Due.is("pump(2)", desk.pump(2), 2);
        Due.is("post(3, 1, 0)", desk.post(3, 1, 0), 4);
        Due.is("pump(16)", desk.pump(16), 4);
        Due.is("post(3, 1, 0)", desk.post(3, 1, 0), 1);
    }

    private static void kindNot0To4() {
        Due.sentence("REFUSED: kind [...] not as said");
        for (int kind = 0; kind <= 4; kind++) {
            Due.is("post(" + kind + ", 0, 0)", new PaneDesk().post(kind, 0, 0), 1);
        }
        for (int kind : Due.outside(0, 4)) {
            refused(kind, 0, 0);
        }
    }

    private static void xNotMinus8To39() {
        Due.sentence("REFUSED: [...] numbers not as said (x not -8 .. 39)");
        for (int kind = 0; kind <= 2; kind++) {
            Due.is("least", new PaneDesk().post(kind, -8, 1), 1);
            Due.is("greatest", new PaneDesk().post(kind, 39, 1), 1);
            for (int x : Due.outside(-8, 39)) {
                refused(kind, x, 1);
            }
        }
    }

    private static void yNotMinus8To23() {
        Due.sentence("REFUSED: [...] numbers not as said (y not -8 .. 23)");
        for (int kind = 0; kind <= 2; kind++) {
            Due.is("least", new PaneDesk().post(kind, 1, -8), 1);
            Due.is("greatest", new PaneDesk().post(kind, 1, 23), 1);
            for (int y : Due.outside(-8, 23)) {
                refused(kind, 1, y);
            }
        }
    }

    private static void keyNot0To9() {
        Due.sentence("REFUSED: [...] numbers not as said (KEY x not 0 .. 9)");
        Due.is("least", new PaneDesk().post(3, 0, 0), 1);
        Due.is("greatest", new PaneDesk().post(3, 9, 0), 1);
        for (int key : Due.outside(0, 9)) {
            refused(3, key, 0);
        }
    }

    private static void numbersThatAnEventDoesNotHave() {
        Due.sentence("3 KEY x, 4 TAB");
        PaneDesk desk = new PaneDesk();
        Due.is("a key has one number", desk.post(3, 5, 1000), 1);
        Due.is("a key has one number", desk.post(3, 5, -1000), 2);
        Due.is("a tab has none", desk.post(4, 1000, -1000), 3);
        Due.is("a tab has none", desk.post(4, Integer.MIN_VALUE, Integer.MAX_VALUE), 4);
    }

    private static void fullWith16() {
        Due.sentence("EVENTS wait in a queue of at most 16 [...] FULL");
        PaneDesk desk = new PaneDesk();
        for (int i = 1; i <= 16; i++) {
            Due.is("post(4, 0, 0)", desk.post(4, 0, 0), i);
        }
        for (int kind = 0; kind < 5; kind++) {
            Due.is("post(" + kind + ", 1, 1)", desk.post(kind, 1, 1), -2);
        }
        Due.is("pump(1)", desk.pump(1), 1);
        Due.is("room again", desk.post(4, 0, 0), 16);
        Due.is("and full again", desk.post(4, 0, 0), -2);
        Due.is("pump(16)", desk.pump(16), 16);
        Due.is("pump(16)", desk.pump(16), 0);
        for (int kind = 0; kind < 5; kind++) {
            int last = kind;
            Twins.changesNothing("post that is FULL", Twins::crowded, one -> Due.is("post", one.post(last, 5, 5), -2));
        }
    }

    private static void notFullForAMoveThatTakesAPlace() {
        Due.sentence("FULL (but not for a MOVE that takes the place of one)");
        PaneDesk desk = new PaneDesk();
        desk.make(0, 0, 0, 0, 2, 2, 2);
        desk.make(0, 0, 4, 0, 2, 2, 3);
        for (int i = 1; i <= 15; i++) {
            desk.post(4, 0, 0);
        }
        Due.is("sixteenth", desk.post(0, 0, 0), 16);
        Due.is("takes its place though full", desk.post(0, 4, 0), 16);
        Due.is("PRESS", desk.post(1, 0, 0), -2);
        Due.is("RELEASE", desk.post(2, 0, 0), -2);
        Due.is("KEY", desk.post(3, 0, 0), -2);
        Due.is("TAB", desk.post(4, 0, 0), -2);
        Due.is("refused first", desk.post(0, 40, 0), -1);
        Due.is("pump(16)", desk.pump(16), 16);
        Due.specials(desk, 2, -1, -1);
    }

    private static void fullForAMoveThatTakesNone() {
        PaneDesk desk = new PaneDesk();
        desk.post(0, 0, 0);
        for (int i = 2; i <= 16; i++) {
            desk.post(1, 40 - 2 * i, 0);
        }
        Due.is("MOVE behind a PRESS", desk.post(0, 0, 0), -2);
        Due.is("pump(16)", desk.pump(16), 16);
    }
}
