import java.util.Arrays;

/** Promise 2: make. */
public final class Promise02MakeTest {
    // What Twins.lively() leaves free.
    private static final int FREE = 8;

    public static void main(String[] args) {
        highestOfItsSiblings();
        leastNumberThatIsFree();
        noSuchParent();
        kindNot0To3();
        xOrYNotMinus40To40();
        wOrHNot1To32();
        colourNot0To15();
        fullIfThereAre12();
        newOnesAreFresh();
        shiftIsFresh();
        Due.end();
    }

    private static int make(PaneDesk desk, int... a) {
        return desk.make(a[0], a[1], a[2], a[3], a[4], a[5], a[6]);
    }

    private static void taken(int... a) {
        PaneDesk desk = new PaneDesk();
        Twins.lively(desk);
        Due.is("make" + Arrays.toString(a), make(desk, a), FREE);
        Due.rectangle(desk, FREE, a[2], a[3], a[4], a[5]);
        Due.is("its parent", desk.state(FREE, 4), a[0]);
    }

    private static void refused(int... a) {
        String call = "make" + Arrays.toString(a);
        Twins.changesNothing(call, Twins::lively, desk -> Due.is(call, make(desk, a), -1));
    }

    private static void highestOfItsSiblings() {
        Due.sentence("A new widget, the highest of its siblings");
        PaneDesk desk = new PaneDesk();
        desk.make(0, 0, 0, 0, 3, 3, 2);
        desk.make(0, 0, 0, 0, 3, 3, 3);
        desk.make(0, 0, 0, 0, 3, 3, 4);
        Due.is("at(0, 0)", desk.at(0, 0), 3);
        desk.remove(1);
        Due.is("least number", desk.make(0, 0, 0, 0, 3, 3, 5), 1);
        Due.is("at(0, 0)", desk.at(0, 0), 1);
        desk.pump(0);
        Due.is("pixel(0, 0)", desk.pixel(0, 0), 5);
        desk.change(2, 3, 1);
        Due.is("make", desk.make(0, 0, 0, 0, 3, 3, 5), 4);
        Due.is("above one that was made the highest", desk.at(0, 0), 4);
        Due.is("make", desk.make(2, 0, 0, 0, 3, 3, 5), 5);
        Due.is("not above its parent's siblings", desk.at(0, 0), 4);
    }

    private static void leastNumberThatIsFree() {
        Due.sentence("its number, the least that is free");
        PaneDesk desk = new PaneDesk();
        Due.is("first", desk.make(0, 0, 1, 2, 3, 4, 5), 1);
        Due.rectangle(desk, 1, 1, 2, 3, 4);
        Due.is("second", desk.make(1, 3, 1, 1, 1, 1, 6), 2);
        Due.is("its parent", desk.state(2, 4), 1);
        Due.is("third", desk.make(0, 2, 1, 1, 1, 1, 6), 3);
        Due.is("remove(1)", desk.remove(1), 2);
        Due.is("least free", desk.make(3, 0, 0, 0, 1, 1, 1), 1);
        Due.is("next free", desk.make(1, 0, 0, 0, 1, 1, 1), 2);
        Due.is("behind", desk.make(2, 0, 0, 0, 1, 1, 1), 4);
        Due.is("parent with a greater number", desk.state(1, 4), 3);
        for (int widget = 5; widget < 12; widget++) {
            Due.is("up to the last", desk.make(0, 0, 0, 0, 1, 1, 1), widget);
        }
        desk.remove(11);
        desk.remove(4);
        desk.remove(7);
        Due.is("of several", desk.make(0, 0, 0, 0, 1, 1, 1), 4);
        Due.is("of several", desk.make(0, 0, 0, 0, 1, 1, 1), 7);
        Due.is("of several", desk.make(0, 0, 0, 0, 1, 1, 1), 11);
    }

    private static void noSuchParent() {
        Due.sentence("REFUSED: no such parent");
        taken(0, 0, 1, 1, 2, 2, 3);
        for (int parent : Due.outside(0, 11)) {
            refused(parent, 0, 1, 1, 2, 2, 3);
        }
        refused(FREE, 0, 1, 1, 2, 2, 3);
        refused(11, 0, 1, 1, 2, 2, 3);
        PaneDesk desk = new PaneDesk();
        desk.make(0, 0, 0, 0, 1, 1, 1);
        desk.make(1, 0, 0, 0, 1, 1, 1);
        desk.remove(1);
        Due.is("one that was taken away", desk.make(1, 0, 0, 0, 1, 1, 1), -1);
        Due.is("one that was taken away with it", desk.make(2, 0, 0, 0, 1, 1, 1), -1);
        for (int widget = 1; widget < 12; widget++) {
            Due.is("the newest one as parent", desk.make(widget - 1, 0, 0, 0, 1, 1, 1), widget);
        }
    }

    private static void kindNot0To3() {
        Due.sentence("REFUSED: [...] kind not 0 .. 3");
        for (int kind = 0; kind <= 3; kind++) {
            taken(0, kind, 1, 1, 2, 2, 3);
        }
        for (int kind : Due.outside(0, 3)) {
            refused(0, kind, 1, 1, 2, 2, 3);
        }
    }

    private static void xOrYNotMinus40To40() {
        Due.sentence("REFUSED: [...] x or y not -40 .. 40");
        for (int place : new int[] {-40, 40}) {
            taken(0, 0, place, 1, 2, 2, 3);
            taken(0, 0, 1, place, 2, 2, 3);
        }
        for (int place : Due.outside(-40, 40)) {
            refused(0, 0, place, 1, 2, 2, 3);
            refused(0, 0, 1, place, 2, 2, 3);
        }
    }

    private static void wOrHNot1To32() {
        Due.sentence("REFUSED: [...] w or h not 1 .. 32");
        for (int size : new int[] {1, 32}) {
            taken(0, 0, 1, 1, size, 2, 3);
            taken(0, 0, 1, 1, 2, size, 3);
        }
        for (int size : Due.outside(1, 32)) {
            refused(0, 0, 1, 1, size, 2, 3);
            refused(0, 0, 1, 1, 2, size, 3);
        }
    }

    private static void colourNot0To15() {
        Due.sentence("REFUSED: [...] colour not 0 .. 15");
        for (int colour : new int[] {0, 15}) {
            taken(0, 0, 1, 1, 2, 2, colour);
            PaneDesk desk = new PaneDesk();
            desk.make(0, 0, 3, 3, 2, 2, colour);
            desk.pump(0);
            Due.is("pixel(3, 3)", desk.pixel(3, 3), colour == 0 ? 1 : 15);
        }
        for (int colour : Due.outside(0, 15)) {
            refused(0, 0, 1, 1, 2, 2, colour);
        }
    }

    private static void fullIfThereAre12() {
        Due.sentence("FULL if there are 12");
        PaneDesk desk = new PaneDesk();
        for (int widget = 1; widget < 12; widget++) {
            Due.is("make", desk.make(widget - 1, 0, 0, 0, 1, 1, 1), widget);
        }
        for (int parent = 0; parent < 12; parent++) {
            Due.is("thirteenth", desk.make(parent, 0, 0, 0, 1, 1, 1), -2);
        }
        Due.is("remove(11)", desk.remove(11), 1);
        Due.is("room again", desk.make(0, 0, 0, 0, 1, 1, 1), 11);
        Due.is("and full again", desk.make(0, 0, 0, 0, 1, 1, 1), -2);
        Twins.changesNothing("make that is FULL", Twins::crowded,
            one -> Due.is("make", one.make(0, 1, 2, 2, 3, 3, 4), -2));
    }

    private static void newOnesAreFresh() {
        Due.sentence("New: weight, gap, shift, layout, value 0, visible, enabled, not on");
        PaneDesk desk = new PaneDesk();
        desk.make(0, 3, 0, 0, 4, 4, 5);
        desk.arrange(1, 1, 2, 3);
        desk.shift(1, 5, 6);
        Due.click(desk, 1, 1);
        Due.post(desk, 3, 7, 0);
        desk.pump(16);
        desk.effect(1, 1, 1);
        desk.change(1, 1, 0);
        desk.change(1, 2, 0);
        desk.remove(1);
        Due.is("make", desk.make(0, 2, 0, 0, 4, 4, 8), 1);
        int[] want = {0, 0, 1, 1, 0, 0};
        for (int what = 0; what < want.length; what++) {
            Due.is("state(1, " + what + ")", desk.state(1, what), want[what]);
        }
        desk.make(1, 0, 1, 1, 2, 2, 3);
        desk.make(1, 0, 0, 2, 1, 1, 4);
        Due.rectangle(desk, 2, 1, 1, 2, 2);
        Due.rectangle(desk, 3, 0, 2, 1, 1);
        desk.arrange(0, 1, 0, 0);
        Due.is("weight 0", desk.rectangle(1, 2), 4);
        desk.arrange(0, 0, 0, 0);
        Due.click(desk, 3, 3);
        Due.is("it is on", desk.state(1, 1), 1);
        Due.is("no effect", desk.state(1, 2), 1);
        desk.remove(1);
        desk.make(0, 2, 0, 0, 4, 4, 8);
        Due.is("not on", desk.state(1, 1), 0);
    }

    private static void shiftIsFresh() {
        Due.sentence("New: [...] shift, layout, value 0");
        PaneDesk desk = new PaneDesk();
        for (int widget = 1; widget < 11; widget++) {
            desk.make(0, 0, widget, 0, 4, 4, 5);
            desk.shift(widget, widget, -widget);
        }
        for (int widget = 1; widget < 11; widget++) {
            desk.remove(widget);
            desk.make(0, 0, widget, 0, 4, 4, 5);
            Due.is("child", desk.make(widget, 0, 2, 3, 1, 1, 5), 11);
            Due.rectangle(desk, 11, widget + 2, 3, 1, 1);
            Due.is("remove(11)", desk.remove(11), 1);
            if (widget < 10) {
                desk.make(widget + 1, 0, 2, 3, 1, 1, 5);
                Due.rectangle(desk, 11, 2, 3 + widget + 1, 1, 1);
                desk.remove(11);
            }
        }
    }
}
