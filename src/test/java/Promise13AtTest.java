/** Promise 13: at. */
public final class Promise13AtTest {
    public static void main(String[] args) {
        PaneDesk desk = new PaneDesk();
        Due.is("at(0, 0)", desk.at(0, 0), 0);
        Due.is("at(31, 15)", desk.at(31, 15), 0);
        int far = Integer.MAX_VALUE;
        int[][] outside = {{-1, 0}, {32, 0}, {0, -1}, {0, 16}, {far, 0}, {0, far}, {-far - 1, -far - 1}};
        for (int[] a : outside) {
            Due.is("at(" + a[0] + ", " + a[1] + ")", desk.at(a[0], a[1]), -1);
        }
        desk.make(0, 0, 4, 2, 6, 6, 2);
        Due.is("now, though not drawn yet", desk.at(4, 2), 1);
        Due.is("at(9, 7)", desk.at(9, 7), 1);
        Due.is("at(10, 7)", desk.at(10, 7), 0);
        Due.is("at(9, 8)", desk.at(9, 8), 0);
        Due.is("at(3, 2)", desk.at(3, 2), 0);
        desk.make(1, 0, 4, 4, 6, 6, 0);
        Due.is("also if its colour is 0", desk.at(8, 6), 2);
        Due.is("clipped to its parent", desk.at(10, 8), 0);
        desk.make(0, 0, 8, 6, 2, 1, 3);
        Due.is("the highest", desk.at(8, 6), 3);
        Due.is("beside it", desk.at(8, 7), 2);
        desk.change(3, 2, 0);
        Due.is("also if not able", desk.at(8, 6), 3);
        desk.change(3, 1, 0);
        Due.is("not if not visible", desk.at(8, 6), 2);
        desk.change(1, 1, 0);
        Due.is("nor below one that is not", desk.at(8, 6), 0);
        desk.change(0, 1, 0);
        Due.is("none at all", desk.at(8, 6), -1);
        clippedToAllAncestors();
        Due.end();
    }

    private static void clippedToAllAncestors() {
        PaneDesk desk = new PaneDesk();
        desk.make(0, 0, 2, 2, 4, 4, 2);
        desk.make(1, 0, 3, 0, 9, 9, 3);
        desk.make(2, 0, -3, 0, 9, 9, 4);
        Due.is("at(2, 2)", desk.at(2, 2), 1);
        Due.is("at(5, 5)", desk.at(5, 5), 3);
        Due.is("at(6, 5)", desk.at(6, 5), 0);
        Due.is("at(5, 6)", desk.at(5, 6), 0);
    }
}
