/** Terms: the root, the tree, SEEN and ABLE. */
public final class TermsWidgetsTest {
    public static void main(String[] args) {
        widgets0To11();
        theRootAlwaysIs();
        theRootIsAPanel();
        seenWithAllItsAncestors();
        ableWithAllItsAncestors();
        seenThoughClippedAway();
        Due.end();
    }

    /** Each widget in the one before, from the root to 11. */
    private static PaneDesk chain() {
        PaneDesk desk = new PaneDesk();
        for (int widget = 1; widget < 12; widget++) {
            desk.make(widget - 1, widget % 4, 1, 1, 30, 15, widget);
        }
        return desk;
    }

    private static void widgets0To11() {
        Due.sentence("WIDGETS 0 .. 11 are there or not.");
        PaneDesk desk = chain();
        for (int widget = 0; widget < 12; widget++) {
            Due.is("parent of " + widget, desk.state(widget, 4), widget - 1);
            Due.is("children of " + widget, desk.state(widget, 5), widget == 11 ? 0 : 1);
        }
        Due.is("no twelfth", desk.state(12, 4), -1);
        desk.remove(6);
        for (int widget = 0; widget < 12; widget++) {
            Due.is("width of " + widget, desk.rectangle(widget, 2), widget == 0 ? 32 : widget < 6 ? 30 : -1000);
        }
    }

    private static void theRootAlwaysIs() {
        Due.sentence("The ROOT 0 always is, of KIND 0, at (0, 0), 32 wide, 16 high, colour 1");
        PaneDesk desk = new PaneDesk();
        Due.is("remove(0)", desk.remove(0), -1);
        Due.is("wish(0, 1, 1, 5, 5)", desk.wish(0, 1, 1, 5, 5), false);
        desk.arrange(0, 1, 3, 3);
        desk.shift(0, 7, 7);
        Due.rectangle(desk, 0, 0, 0, 32, 16);
        desk.change(0, 1, 0);
        Due.rectangle(desk, 0, 0, 0, 32, 16);
        Due.is("parent", desk.state(0, 4), -1);
        desk.change(0, 1, 1);
        desk.pump(0);
        for (int x = 0; x < 32; x += 31) {
            for (int y = 0; y < 16; y += 15) {
                Due.is("pixel(" + x + ", " + y + ")", desk.pixel(x, y), 1);
            }
        }
        Due.is("the first to be made is 1", desk.make(0, 0, 0, 0, 1, 1, 1), 1);
    }

    private static void theRootIsAPanel() {
        PaneDesk desk = new PaneDesk();
        Due.click(desk, 5, 5);
        Due.post(desk, 4, 0, 0);
        desk.pump(1);
        Due.specials(desk, 0, -1, -1);
        Due.is("not on", desk.state(0, 1), 0);
        desk.post(1, 5, 5);
        desk.pump(1);
        Due.is("nothing exchanged", desk.pixel(5, 5), 1);
    }

    private static void seenWithAllItsAncestors() {
        Due.sentence("SEEN is one that is VISIBLE with all its ancestors");
        PaneDesk desk = chain();
        for (int hidden = 0; hidden < 12; hidden++) {
            desk.change(hidden, 1, 0);
            for (int widget = 0; widget < 12; widget++) {
                Due.is("SEEN " + widget, desk.state(widget, 2), widget < hidden ? 1 : 0);
            }
            Due.is("ABLE 11", desk.state(11, 3), 1);
            desk.change(hidden, 1, 1);
        }
        PaneDesk other = chain();
        other.change(3, 1, 0);
        other.change(7, 1, 0);
        other.change(3, 1, 1);
        Due.is("SEEN 6", other.state(6, 2), 1);
        Due.is("SEEN 7", other.state(7, 2), 0);
        Due.is("SEEN 11", other.state(11, 2), 0);
    }

    private static void ableWithAllItsAncestors() {
        Due.sentence("ABLE one that is ENABLED with all of them");
        PaneDesk desk = chain();
        for (int disabled = 0; disabled < 12; disabled++) {
            desk.change(disabled, 2, 0);
            for (int widget = 0; widget < 12; widget++) {
                Due.is("ABLE " + widget, desk.state(widget, 3), widget < disabled ? 1 : 0);
            }
            Due.is("SEEN 11", desk.state(11, 2), 1);
            desk.change(disabled, 2, 1);
        }
        PaneDesk other = chain();
        other.change(3, 2, 0);
        other.change(7, 2, 0);
        other.change(3, 2, 1);
        Due.is("ABLE 6", other.state(6, 3), 1);
        Due.is("ABLE 7", other.state(7, 3), 0);
        Due.is("ABLE 11", other.state(11, 3), 0);
    }

    private static void seenThoughClippedAway() {
        Due.sentence("SEEN is one that is VISIBLE (where it stands does not matter)");
        PaneDesk desk = new PaneDesk();
        desk.make(0, 1, 40, 40, 1, 1, 2);
        Due.is("SEEN", desk.state(1, 2), 1);
        Due.post(desk, 4, 0, 0);
        desk.pump(1);
        Due.specials(desk, -1, -1, 1);
    }
}
