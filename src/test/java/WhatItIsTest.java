/** Section "What it is": up to its 512th call an object answers as it should. */
public final class WhatItIsTest {
    private static final int CALLS = 512;

    public static void main(String[] args) {
        widgetsThatComeAndGo();
        mostNotes();
        mostShifts();
        Due.end();
    }

    private static void widgetsThatComeAndGo() {
        Due.sentence("An object is used for at most 512 calls (that make and remove)");
        PaneDesk desk = new PaneDesk();
        for (int i = 0; i < CALLS / 2; i++) {
            Due.is("make, call " + (2 * i + 1), desk.make(0, i % 4, 0, 0, 1, 1, 1), 1);
            Due.is("remove, call " + (2 * i + 2), desk.remove(1), 1);
        }
    }

    private static void mostNotes() {
        Due.sentence("An object is used for at most 512 calls (with as many notes as they can give)");
        PaneDesk desk = new PaneDesk();
        for (int widget = 1; widget < 12; widget++) {
            desk.make(0, 0, 2 * widget, 0, 2, 2, widget);
        }
        for (int widget = 0; widget < 12; widget++) {
            desk.effect(widget, 6, (widget + 1) % 12);
        }
        for (int round = 0; round < 28; round++) {
            for (int i = 0; i < 16; i++) {
                Due.is("post", desk.post(1 + i % 2, 2, 0), i + 1);
            }
            Due.is("pump(16)", desk.pump(16), 16);
        }
        // Each click is a press and twelve that act; before the first one the pointer entered.
        Due.is("noted(-1), call 500", desk.noted(-1), 1 + 28 * 8 * 13);
        Due.is("noted(0), call 501", desk.noted(0), 96);
        for (int k = 1; k < 12; k++) {
            Due.is("noted(" + k + "), call " + (501 + k), desk.noted(k), 96 + 12 - k);
        }
    }

    private static void mostShifts() {
        Due.sentence("An object is used for at most 512 calls (in which a shift goes around again and again)");
        PaneDesk desk = new PaneDesk();
        desk.make(0, 1, 0, 0, 4, 4, 2);
        desk.make(0, 0, 8, 0, 4, 4, 3);
        desk.make(2, 0, 0, 0, 1, 1, 4);
        desk.effect(1, 4, 2);
        int shift = 0;
        for (int i = 0; i < 127; i++) {
            desk.post(1, 1, 1);
            desk.post(2, 1, 1);
            desk.pump(2);
            shift = shift == 20 ? -20 : shift + 1;
            Due.is("rectangle(3, 0), call " + (8 + 4 * i), desk.rectangle(3, 0), 8 - shift);
        }
    }
}
