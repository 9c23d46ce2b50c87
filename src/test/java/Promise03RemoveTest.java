/** Promise 3: remove, and what a widget that is taken away is not any more. */
public final class Promise03RemoveTest {
    public static void main(String[] args) {
        withAllBelow();
        refused();
        noMoreSpecial();
        othersStaySpecial();
        orderOfTheRest();
        roomInALine();
        orderOfTheFocus();
        Due.end();
    }

    private static void withAllBelow() {
        PaneDesk desk = new PaneDesk();
        desk.make(0, 0, 0, 0, 9, 9, 2);
        desk.make(0, 0, 0, 0, 9, 9, 2);
        desk.make(2, 0, 0, 0, 9, 9, 2);
        desk.remove(1);
        desk.make(3, 0, 0, 0, 9, 9, 2);
        desk.make(1, 0, 0, 0, 9, 9, 2);
        desk.make(0, 0, 0, 0, 9, 9, 2);
        Due.is("remove(2)", desk.remove(2), 4);
        for (int widget = 1; widget < 5; widget++) {
            Due.is("state(" + widget + ", 5)", desk.state(widget, 5), -1);
        }
        Due.is("sibling stays", desk.state(5, 4), 0);
        Due.is("children of the root", desk.state(0, 5), 1);
        Due.is("remove(5)", desk.remove(5), 1);
        Due.is("children of the root", desk.state(0, 5), 0);
        Due.is("least free", desk.make(0, 0, 0, 0, 1, 1, 1), 1);
    }

    private static void refused() {
        PaneDesk desk = new PaneDesk();
        desk.make(0, 0, 0, 0, 9, 9, 2);
        String before = Due.face(desk);
        for (int widget : new int[] {0, 2, 11, 12, -1, Integer.MIN_VALUE, Integer.MAX_VALUE}) {
            Due.is("remove(" + widget + ")", desk.remove(widget), -1);
        }
        Due.same("refused remove", Due.face(desk), before);
        Due.is("remove(1)", desk.remove(1), 1);
        Due.is("remove(1) again", desk.remove(1), -1);
    }

    private static void noMoreSpecial() {
        PaneDesk desk = new PaneDesk();
        desk.make(0, 0, 0, 0, 9, 9, 2);
        desk.make(1, 1, 0, 0, 9, 9, 2);
        Due.post(desk, 1, 1, 1);
        desk.pump(16);
        Due.specials(desk, 2, 2, 2);
        Due.is("remove(1)", desk.remove(1), 2);
        Due.specials(desk, -1, -1, -1);
        Due.notes(desk, 3, 34, 50, 82);
        desk.make(0, 1, 0, 0, 9, 9, 2);
        Due.post(desk, 2, 1, 1);
        desk.pump(16);
        Due.notes(desk, 4, 82, 33);
    }

    private static void othersStaySpecial() {
        PaneDesk desk = new PaneDesk();
        desk.make(0, 1, 0, 0, 4, 4, 2);
        desk.make(0, 1, 8, 0, 4, 4, 2);
        desk.make(0, 1, 16, 0, 4, 4, 2);
        Due.post(desk, 1, 1, 1);
        Due.post(desk, 0, 9, 1);
        Due.post(desk, 4, 0, 0);
        Due.post(desk, 4, 0, 0);
        desk.pump(16);
        Due.specials(desk, 2, 1, 3);
        desk.remove(2);
        Due.specials(desk, -1, 1, 3);
        desk.remove(1);
        Due.specials(desk, -1, -1, 3);
        desk.remove(3);
        Due.specials(desk, -1, -1, -1);
    }

    private static void roomInALine() {
        PaneDesk desk = new PaneDesk();
        desk.arrange(0, 1, 2, 0);
        for (int widget = 1; widget < 4; widget++) {
            desk.make(0, 0, 0, 0, 4, 4, 2);
            desk.arrange(widget, 0, 0, 1);
        }
        Due.rectangle(desk, 2, 12, 0, 9, 16);
        desk.remove(3);
        Due.rectangle(desk, 1, 0, 0, 15, 16);
        Due.rectangle(desk, 2, 17, 0, 15, 16);
        desk.remove(1);
        Due.rectangle(desk, 2, 0, 0, 32, 16);
    }

    private static void orderOfTheFocus() {
        PaneDesk desk = new PaneDesk();
        for (int widget = 1; widget < 4; widget++) {
            desk.make(0, 1, 4 * widget, 0, 4, 4, 2);
        }
        Due.click(desk, 8, 1);
        desk.remove(3);
        Due.post(desk, 4, 0, 0);
        desk.pump(1);
        Due.specials(desk, 2, -1, 1);
    }

    private static void orderOfTheRest() {
        PaneDesk desk = new PaneDesk();
        for (int i = 0; i < 4; i++) {
            desk.make(0, 0, i, 0, 8, 2, 2 + i);
        }
        desk.remove(2);
        Due.is("at(1, 0)", desk.at(1, 0), 1);
        Due.is("at(2, 0)", desk.at(2, 0), 3);
        Due.is("at(3, 0)", desk.at(3, 0), 4);
    }
}
