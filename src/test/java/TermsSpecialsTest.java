/** Terms: OVER, PRESSED and FOCUS of a widget that is taken away, or ceases to be SEEN or ABLE. */
public final class TermsSpecialsTest {
    public static void main(String[] args) {
        noneAtFirst();
        oneThatIsTakenAway();
        oneThatIsTakenAwayWithItsParent();
        eachOnItsOwn();
        laterOneOfThatNumber();
        takingAwayIsNotNoted();
        oneThatCeasesToBeSeen();
        oneThatCeasesToBeAble();
        oneThatMovesAway();
        Due.end();
    }

    /** A button 2 in a panel 1, and a box 3 beside; the button is OVER, PRESSED and has the FOCUS. */
    private static PaneDesk held() {
        PaneDesk desk = new PaneDesk();
        desk.make(0, 0, 0, 0, 9, 9, 2);
        desk.make(1, 1, 0, 0, 9, 9, 3);
        desk.make(0, 2, 20, 0, 4, 4, 4);
        Due.post(desk, 1, 1, 1);
        desk.pump(16);
        Due.specials(desk, 2, 2, 2);
        return desk;
    }

    private static void noneAtFirst() {
        Due.sentence("OVER is a widget or none (at first), so are PRESSED and FOCUS.");
        PaneDesk desk = new PaneDesk();
        Due.specials(desk, -1, -1, -1);
        desk.make(0, 1, 0, 0, 32, 16, 3);
        desk.pump(16);
        Due.specials(desk, -1, -1, -1);
    }

    private static void oneThatIsTakenAway() {
        Due.sentence("A widget that is taken away is not OVER, PRESSED or FOCUS any more");
        PaneDesk desk = held();
        Due.is("remove(3)", desk.remove(3), 1);
        Due.specials(desk, 2, 2, 2);
        Due.is("remove(2)", desk.remove(2), 1);
        Due.specials(desk, -1, -1, -1);
    }

    private static void oneThatIsTakenAwayWithItsParent() {
        PaneDesk desk = held();
        Due.is("remove(1)", desk.remove(1), 2);
        Due.specials(desk, -1, -1, -1);
    }

    private static void eachOnItsOwn() {
        for (int taken = 1; taken <= 3; taken++) {
            PaneDesk desk = new PaneDesk();
            desk.make(0, 1, 0, 0, 4, 4, 2);
            desk.make(0, 1, 8, 0, 4, 4, 2);
            desk.make(0, 1, 16, 0, 4, 4, 2);
            Due.post(desk, 1, 1, 1);
            Due.post(desk, 0, 9, 1);
            Due.post(desk, 4, 0, 0);
            Due.post(desk, 4, 0, 0);
            desk.pump(16);
            Due.specials(desk, 2, 1, 3);
            desk.remove(taken);
            Due.specials(desk, taken == 2 ? -1 : 2, taken == 1 ? -1 : 1, taken == 3 ? -1 : 3);
        }
    }

    private static void laterOneOfThatNumber() {
        PaneDesk desk = held();
        desk.remove(2);
        Due.is("make", desk.make(1, 1, 0, 0, 9, 9, 3), 2);
        Due.specials(desk, -1, -1, -1);
        desk.pump(0);
        Due.is("no rim, nothing exchanged", desk.pixel(0, 0), 3);
        Due.post(desk, 3, 0, 0);
        Due.post(desk, 2, 1, 1);
        desk.pump(16);
        Due.notes(desk, 4, 34, 50, 82, 34);
        Due.specials(desk, 2, -1, -1);
    }

    private static void takingAwayIsNotNoted() {
        Due.sentence("MOVE: [...] LEFT 16 is noted for the old one [...] where there is one");
        PaneDesk desk = held();
        desk.remove(2);
        Due.notes(desk, 3, 34, 50, 82);
        Due.post(desk, 0, 1, 1);
        desk.pump(16);
        Due.notes(desk, 4, 34, 50, 82, 33);
    }

    private static void oneThatCeasesToBeSeen() {
        Due.sentence("one that ceases to be SEEN [...] stays what it was");
        for (int widget = 0; widget <= 2; widget++) {
            staysWhatItWas(widget, 1);
        }
    }

    private static void oneThatCeasesToBeAble() {
        Due.sentence("one that ceases to be [...] ABLE stays what it was");
        for (int widget = 0; widget <= 2; widget++) {
            staysWhatItWas(widget, 2);
        }
    }

    private static void staysWhatItWas(int widget, int what) {
        PaneDesk desk = held();
        desk.change(widget, what, 0);
        Due.is("state(2, " + (what + 1) + ")", desk.state(2, what + 1), 0);
        Due.specials(desk, 2, 2, 2);
        Due.is("pump(16)", desk.pump(16), 0);
        Due.specials(desk, 2, 2, 2);
        Due.notes(desk, 3, 34, 50, 82);
        desk.change(widget, what, 1);
        Due.specials(desk, 2, 2, 2);
        Due.post(desk, 2, 1, 1);
        desk.pump(16);
        Due.notes(desk, 4, 34, 50, 82, 98);
        desk = held();
        desk.effect(3, what, widget);
        desk.effect(2, 6, 3);
        Due.post(desk, 3, 0, 0);
        desk.pump(16);
        Due.is("state(2, " + (what + 1) + ") by an effect", desk.state(2, what + 1), 0);
        Due.specials(desk, 2, 2, 2);
    }

    private static void oneThatMovesAway() {
        Due.sentence("MOVE: OVER becomes the widget AT the pixel (till then it stays what it was)");
        PaneDesk desk = held();
        desk.wish(1, 40, 40, 1, 1);
        Due.is("at(1, 1)", desk.at(1, 1), 0);
        desk.pump(0);
        Due.specials(desk, 2, 2, 2);
        Due.post(desk, 3, 1, 0);
        desk.pump(1);
        Due.specials(desk, 2, 2, 2);
        Due.post(desk, 2, 1, 1);
        desk.pump(1);
        Due.specials(desk, 0, -1, 2);
        Due.notes(desk, 5, 34, 50, 82, 18, 32);
    }
}
