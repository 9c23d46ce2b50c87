/** Promise 7: change. */
public final class Promise07ChangeTest {
    public static void main(String[] args) {
        colour();
        visible();
        enabled();
        stacking();
        stackingAgainAndAgain();
        root();
        refused();
        Due.end();
    }

    private static PaneDesk threeOverOneAnother() {
        PaneDesk desk = new PaneDesk();
        desk.make(0, 0, 0, 0, 6, 6, 2);
        desk.make(0, 0, 1, 1, 6, 6, 3);
        desk.make(0, 0, 2, 2, 6, 6, 4);
        return desk;
    }

    private static void colour() {
        PaneDesk desk = threeOverOneAnother();
        Due.is("change(3, 0, 15)", desk.change(3, 0, 15), true);
        desk.pump(0);
        Due.is("pixel(2, 2)", desk.pixel(2, 2), 15);
        Due.is("change(3, 0, 0)", desk.change(3, 0, 0), true);
        Due.is("pixel(2, 2) before pump", desk.pixel(2, 2), 15);
        desk.pump(0);
        Due.is("pixel(2, 2)", desk.pixel(2, 2), 3);
        Due.is("at(2, 2)", desk.at(2, 2), 3);
    }

    private static void visible() {
        PaneDesk desk = threeOverOneAnother();
        Due.is("change(3, 1, 0)", desk.change(3, 1, 0), true);
        Due.is("state(3, 2)", desk.state(3, 2), 0);
        Due.is("at(2, 2)", desk.at(2, 2), 2);
        for (int v : new int[] {1, -1, 2, Integer.MIN_VALUE, Integer.MAX_VALUE}) {
            desk.change(3, 1, 0);
            Due.is("change(3, 1, " + v + ")", desk.change(3, 1, v), true);
            Due.is("state(3, 2)", desk.state(3, 2), 1);
        }
    }

    private static void enabled() {
        PaneDesk desk = threeOverOneAnother();
        Due.is("change(3, 2, 0)", desk.change(3, 2, 0), true);
        Due.is("state(3, 3)", desk.state(3, 3), 0);
        Due.is("state(3, 2)", desk.state(3, 2), 1);
        Due.is("at(2, 2)", desk.at(2, 2), 3);
        for (int v : new int[] {1, -1, 2, Integer.MIN_VALUE, Integer.MAX_VALUE}) {
            desk.change(3, 2, 0);
            Due.is("change(3, 2, " + v + ")", desk.change(3, 2, v), true);
            Due.is("state(3, 3)", desk.state(3, 3), 1);
        }
    }

    private static void stacking() {
        PaneDesk desk = threeOverOneAnother();
        Due.is("change(1, 3, 7)", desk.change(1, 3, 7), true);
        Due.is("at(2, 2)", desk.at(2, 2), 1);
        Due.is("at(6, 6)", desk.at(6, 6), 3);
        Due.is("change(3, 3, 0)", desk.change(3, 3, 0), true);
        Due.is("at(6, 6)", desk.at(6, 6), 2);
        Due.is("at(2, 2)", desk.at(2, 2), 1);
        Due.is("change(1, 3, 0)", desk.change(1, 3, 0), true);
        Due.is("at(2, 2)", desk.at(2, 2), 2);
        Due.is("at(7, 7)", desk.at(7, 7), 3);
        desk.change(2, 1, 0);
        Due.is("3 is above 1 again", desk.at(2, 2), 3);
        Due.is("change(3, 3, -1)", desk.change(3, 3, -1), true);
        desk.change(2, 1, 1);
        Due.is("at(2, 2)", desk.at(2, 2), 3);
        desk.make(1, 0, 0, 0, 6, 6, 5);
        desk.change(4, 3, 1);
        Due.is("only among its siblings", desk.at(2, 2), 3);
        desk.change(1, 3, 1);
        Due.is("with its children", desk.at(2, 2), 4);
    }

    private static void stackingAgainAndAgain() {
        PaneDesk desk = threeOverOneAnother();
        for (int i = 0; i < 40; i++) {
            int widget = 1 + i % 3;
            Due.is("highest", desk.change(widget, 3, 1), true);
            Due.is("at(2, 2)", desk.at(2, 2), widget);
            Due.is("children of the root", desk.state(0, 5), 3);
        }
        for (int i = 0; i < 40; i++) {
            Due.is("lowest", desk.change(1 + i % 3, 3, 0), true);
            Due.is("children of the root", desk.state(0, 5), 3);
        }
        Due.is("at(2, 2)", desk.at(2, 2), 2);
    }

    private static void root() {
        PaneDesk desk = threeOverOneAnother();
        String before = Due.face(desk);
        Due.is("change(0, 3, 1)", desk.change(0, 3, 1), false);
        Due.is("change(0, 3, 0)", desk.change(0, 3, 0), false);
        Due.same("refused change", Due.face(desk), before);
        Due.is("change(0, 0, 9)", desk.change(0, 0, 9), true);
        desk.pump(0);
        Due.is("pixel(31, 15)", desk.pixel(31, 15), 9);
        Due.is("change(0, 2, 0)", desk.change(0, 2, 0), true);
        Due.is("state(3, 3)", desk.state(3, 3), 0);
        desk.pump(0);
        Due.is("pixel(31, 15)", desk.pixel(31, 15), 1);
        Due.is("change(0, 1, 0)", desk.change(0, 1, 0), true);
        Due.is("state(0, 2)", desk.state(0, 2), 0);
        Due.is("at(0, 0)", desk.at(0, 0), -1);
        desk.pump(0);
        Due.is("screen()", desk.screen(), 0);
    }

    private static void refused() {
        PaneDesk desk = threeOverOneAnother();
        desk.pump(0);
        String before = Due.face(desk);
        int[][] wrong = {
            {4, 0, 1}, {12, 0, 1}, {-1, 0, 1}, {Integer.MAX_VALUE, 1, 0}, {4, 1, 0}, {4, 2, 0}, {4, 3, 1},
            {1, 0, -1}, {1, 0, 16}, {1, -1, 0}, {1, 4, 0}, {1, Integer.MIN_VALUE, 0},
        };
        for (int[] a : wrong) {
            Due.is(java.util.Arrays.toString(a), desk.change(a[0], a[1], a[2]), false);
        }
        desk.pump(0);
        Due.same("refused change", Due.face(desk), before);
    }
}
