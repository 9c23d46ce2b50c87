import java.util.Arrays;

/** Promise 4: wish. */
public final class Promise04WishTest {
    public static void main(String[] args) {
        theWish();
        noSuchWidget();
        itIsTheRoot();
        placeOutOfRange();
        sizeOutOfRange();
        notDrawnBeforePump();
        Due.end();
    }

    private static void refused(int... a) {
        String call = "wish" + Arrays.toString(a);
        Twins.changesNothing(call, Twins::lively, desk -> Due.is(call, desk.wish(a[0], a[1], a[2], a[3], a[4]), false));
    }

    private static void taken(int... a) {
        PaneDesk desk = new PaneDesk();
        Twins.lively(desk);
        Due.is("wish" + Arrays.toString(a), desk.wish(a[0], a[1], a[2], a[3], a[4]), true);
        Due.rectangle(desk, a[0], a[1], a[2], a[3], a[4]);
    }

    private static void theWish() {
        Due.sentence("The wish.");
        PaneDesk desk = new PaneDesk();
        desk.make(0, 0, 1, 1, 2, 2, 2);
        desk.make(1, 0, 3, 4, 2, 2, 2);
        Due.is("wish(1, 5, 6, 7, 8)", desk.wish(1, 5, 6, 7, 8), true);
        Due.rectangle(desk, 1, 5, 6, 7, 8);
        Due.rectangle(desk, 2, 8, 10, 2, 2);
        Due.is("the same once more", desk.wish(1, 5, 6, 7, 8), true);
        Due.rectangle(desk, 1, 5, 6, 7, 8);
    }

    private static void noSuchWidget() {
        Due.sentence("False, and nothing changes, if there is no such widget");
        for (int widget : Due.outside(0, 11)) {
            refused(widget, 1, 1, 2, 2);
        }
        refused(8, 1, 1, 2, 2);
        refused(11, 1, 1, 2, 2);
        PaneDesk desk = new PaneDesk();
        desk.make(0, 0, 1, 1, 2, 2, 2);
        desk.remove(1);
        Due.is("one that was taken away", desk.wish(1, 1, 1, 2, 2), false);
    }

    private static void itIsTheRoot() {
        Due.sentence("False, and nothing changes, if [...] it is the root");
        refused(0, 1, 1, 2, 2);
        refused(0, 0, 0, 32, 16);
    }

    private static void placeOutOfRange() {
        Due.sentence("False, and nothing changes, if [...] a number is out of range (x or y not -40 .. 40)");
        for (int place : new int[] {-40, 40}) {
            taken(1, place, 2, 3, 4);
            taken(1, 2, place, 3, 4);
        }
        for (int place : Due.outside(-40, 40)) {
            refused(1, place, 2, 3, 4);
            refused(1, 2, place, 3, 4);
        }
    }

    private static void sizeOutOfRange() {
        Due.sentence("False, and nothing changes, if [...] a number is out of range (w or h not 1 .. 32)");
        for (int size : new int[] {1, 32}) {
            taken(1, 2, 3, size, 4);
            taken(1, 2, 3, 4, size);
        }
        for (int size : Due.outside(1, 32)) {
            refused(1, 2, 3, size, 4);
            refused(1, 2, 3, 4, size);
        }
    }

    private static void notDrawnBeforePump() {
        Due.sentence("The wish (which pump draws).");
        PaneDesk desk = new PaneDesk();
        desk.make(0, 0, 0, 0, 2, 2, 5);
        desk.pump(0);
        desk.wish(1, 4, 4, 2, 2);
        Due.is("pixel(0, 0)", desk.pixel(0, 0), 5);
        desk.pump(0);
        Due.is("pixel(0, 0)", desk.pixel(0, 0), 1);
        Due.is("pixel(5, 5)", desk.pixel(5, 5), 5);
    }
}
