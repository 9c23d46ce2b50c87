/** Promise 16: special. When a widget ceases to be one of these is in TermsSpecialsTest. */
public final class Promise16SpecialTest {
    public static void main(String[] args) {
        noneOfThem();
        eachOfThem();
        theRoot();
        anotherWhat();
        Due.end();
    }

    private static void noneOfThem() {
        Due.sentence("-1 if there is none");
        PaneDesk desk = new PaneDesk();
        desk.make(0, 1, 0, 0, 4, 4, 3);
        Due.specials(desk, -1, -1, -1);
        Due.click(desk, 1, 1);
        Due.post(desk, 0, -1, -1);
        desk.pump(1);
        Due.specials(desk, -1, -1, 1);
    }

    private static void eachOfThem() {
        Due.sentence("What 0: the widget OVER, 1: PRESSED, 2: FOCUS");
        PaneDesk desk = new PaneDesk();
        desk.make(0, 1, 0, 0, 4, 4, 3);
        desk.make(0, 3, 5, 0, 4, 4, 4);
        desk.make(0, 0, 10, 0, 4, 4, 4);
        Due.post(desk, 1, 1, 1);
        Due.post(desk, 4, 0, 0);
        Due.post(desk, 0, 11, 1);
        desk.pump(16);
        Due.specials(desk, 3, 1, 2);
    }

    private static void theRoot() {
        PaneDesk desk = new PaneDesk();
        Due.post(desk, 1, 31, 15);
        desk.pump(16);
        Due.specials(desk, 0, 0, -1);
    }

    private static void anotherWhat() {
        Due.sentence("-2 for another what");
        PaneDesk desk = new PaneDesk();
        desk.make(0, 1, 0, 0, 4, 4, 3);
        for (int round = 0; round < 2; round++) {
            for (int what : Due.outside(0, 2)) {
                Due.is("special(" + what + ")", desk.special(what), -2);
            }
            Due.post(desk, 1, 1, 1);
            desk.pump(16);
        }
    }
}
