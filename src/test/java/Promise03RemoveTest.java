/** Promise 3: remove. */
public final class Promise03RemoveTest {
    public static void main(String[] args) {
        withAllBelow();
        oneWithNothingBelow();
        elevenAtOnce();
        theLastOneOfAParent();
        refusedIfThereIsNone();
        refusedIfItIsTheRoot();
        orderOfTheRest();
        roomInALine();
        orderOfTheFocus();
        Due.end();
    }

    private static void withAllBelow() {
        Due.sentence("Takes a widget away, with all below it in the tree: how many.");
        PaneDesk desk = new PaneDesk();
        desk.make(0, 0, 0, 0, 9, 9, 2);
        desk.make(0, 0, 0, 0, 9, 9, 2);
        desk.make(2, 0, 0, 0, 9, 9, 2);
        desk.remove(1);
        desk.make(3, 0, 0, 0, 9, 9, 2);
        desk.make(1, 0, 0, 0, 9, 9, 2);
        desk.make(0, 0, 0, 0, 9, 9, 2);
        Due.is("remove(2)", desk.remove(2), 4);
        for (int widget = 1; widget < 5; widget++) {
            Due.is("state(" + widget + ", 5)", desk.state(widget, 5), -1);
        }
        Due.is("sibling stays", desk.state(5, 4), 0);
        Due.is("children of the root", desk.state(0, 5), 1);
        Due.is("remove(5)", desk.remove(5), 1);
        Due.is("children of the root", desk.state(0, 5), 0);
        Due.is("least free", desk.make(0, 0, 0, 0, 1, 1, 1), 1);
    }

    private static void oneWithNothingBelow() {
        PaneDesk desk = new PaneDesk();
        for (int widget = 1; widget < 12; widget++) {
            desk.make(widget - 1, 0, 0, 0, 9, 9, 2);
        }
        for (int widget = 11; widget > 0; widget--) {
            Due.is("remove(" + widget + ")", desk.remove(widget), 1);
            Due.is("children of its parent", desk.state(widget - 1, 5), 0);
        }
        Due.is("the root is there", desk.state(0, 2), 1);
    }

    private static void elevenAtOnce() {
        for (int spread = 0; spread < 2; spread++) {
            PaneDesk desk = new PaneDesk();
            for (int widget = 1; widget < 12; widget++) {
                desk.make(spread == 0 || widget == 1 ? widget - 1 : 1, 0, 0, 0, 9, 9, 2);
            }
            Due.is("remove(1)", desk.remove(1), 11);
            for (int widget = 1; widget < 12; widget++) {
                Due.is("state(" + widget + ", 4)", desk.state(widget, 4), -1);
                Due.is("rectangle(" + widget + ", 2)", desk.rectangle(widget, 2), -1000);
            }
            Due.is("children of the root", desk.state(0, 5), 0);
            Due.is("at(0, 0)", desk.at(0, 0), 0);
            Due.is("make", desk.make(0, 0, 0, 0, 1, 1, 1), 1);
        }
    }

    private static void theLastOneOfAParent() {
        PaneDesk desk = new PaneDesk();
        desk.make(0, 0, 0, 0, 9, 9, 2);
        desk.make(1, 0, 0, 0, 9, 9, 3);
        desk.make(1, 0, 0, 0, 9, 9, 4);
        Due.is("remove(3)", desk.remove(3), 1);
        Due.is("at(0, 0)", desk.at(0, 0), 2);
        Due.is("remove(2)", desk.remove(2), 1);
        Due.is("at(0, 0)", desk.at(0, 0), 1);
        Due.is("children", desk.state(1, 5), 0);
        Due.is("not drawn before pump", desk.pixel(0, 0), 0);
        desk.pump(0);
        Due.is("pixel(0, 0)", desk.pixel(0, 0), 2);
    }

    private static void refused(int widget) {
        String call = "remove(" + widget + ")";
        Twins.changesNothing(call, Twins::lively, desk -> Due.is(call, desk.remove(widget), -1));
    }

    private static void refusedIfThereIsNone() {
        Due.sentence("REFUSED if there is none");
        for (int widget : Due.outside(0, 11)) {
            refused(widget);
        }
        refused(8);
        refused(11);
        PaneDesk desk = new PaneDesk();
        desk.make(0, 0, 0, 0, 9, 9, 2);
        desk.make(1, 0, 0, 0, 9, 9, 2);
        Due.is("remove(1)", desk.remove(1), 2);
        Due.is("remove(1) again", desk.remove(1), -1);
        Due.is("remove(2) that went with it", desk.remove(2), -1);
    }

    private static void refusedIfItIsTheRoot() {
        Due.sentence("REFUSED if [...] it is the root");
        refused(0);
        PaneDesk desk = new PaneDesk();
        Due.is("remove(0) of the root alone", desk.remove(0), -1);
        Due.rectangle(desk, 0, 0, 0, 32, 16);
    }

    private static void roomInALine() {
        Due.sentence("Takes a widget away (out of a row)");
        PaneDesk desk = new PaneDesk();
        desk.arrange(0, 1, 2, 0);
        for (int widget = 1; widget < 4; widget++) {
            desk.make(0, 0, 0, 0, 4, 4, 2);
            desk.arrange(widget, 0, 0, 1);
        }
        Due.rectangle(desk, 2, 12, 0, 9, 16);
        desk.remove(3);
        Due.rectangle(desk, 1, 0, 0, 15, 16);
        Due.rectangle(desk, 2, 17, 0, 15, 16);
        desk.remove(1);
        Due.rectangle(desk, 2, 0, 0, 32, 16);
    }

    private static void orderOfTheFocus() {
        Due.sentence("Takes a widget away (out of the order of the tree)");
        PaneDesk desk = new PaneDesk();
        for (int widget = 1; widget < 4; widget++) {
            desk.make(0, 1, 4 * widget, 0, 4, 4, 2);
        }
        Due.click(desk, 8, 1);
        desk.remove(3);
        Due.post(desk, 4, 0, 0);
        desk.pump(1);
        Due.specials(desk, 2, -1, 1);
    }

    private static void orderOfTheRest() {
        Due.sentence("Takes a widget away (out of the stack)");
        PaneDesk desk = new PaneDesk();
        for (int i = 0; i < 4; i++) {
            desk.make(0, 0, i, 0, 8, 2, 2 + i);
        }
        desk.remove(2);
        Due.is("at(1, 0)", desk.at(1, 0), 1);
        Due.is("at(2, 0)", desk.at(2, 0), 3);
        Due.is("at(3, 0)", desk.at(3, 0), 4);
    }
}
