/**
 * Two desks that live the same life, one of them with a call more that must change nothing: they may not
 * differ in any answer. As an object is good for 512 calls, new twins are made for each part of what is asked.
 */
final class Twins {
    private static final int PARTS = 4;

    private Twins() {
    }

    interface Life {
        void on(PaneDesk desk);
    }

    static void changesNothing(String call, Life life, Life more) {
        for (int part = 0; part < PARTS; part++) {
            PaneDesk plain = new PaneDesk();
            PaneDesk teased = new PaneDesk();
            life.on(plain);
            life.on(teased);
            more.on(teased);
            Due.same(call + " asked at once", face(teased) + widgetsAt(teased, part), face(plain) + widgetsAt(plain, part));
        }
        PaneDesk plain = new PaneDesk();
        PaneDesk teased = new PaneDesk();
        life.on(plain);
        life.on(teased);
        more.on(teased);
        Due.same(call + " asked later", future(teased) + face(teased), future(plain) + face(plain));
    }

    /** Widgets of all kinds in a row and by hand, some hidden or disabled, one held, with effects, and events that wait. */
    static void lively(PaneDesk desk) {
        desk.make(0, 0, 1, 1, 20, 8, 2);
        desk.make(1, 1, 0, 0, 4, 4, 3);
        desk.make(1, 2, 0, 0, 3, 3, 12);
        desk.make(0, 3, 22, 0, 8, 6, 5);
        desk.make(4, 2, 1, 1, 2, 2, 6);
        desk.make(4, 1, 2, 2, 2, 2, 7);
        desk.make(1, 0, 0, 0, 2, 2, 9);
        desk.arrange(1, 1, 1, 2);
        desk.arrange(2, 0, 0, 2);
        desk.arrange(3, 0, 0, 1);
        desk.shift(1, 1, -1);
        desk.shift(4, -1, 1);
        desk.change(7, 1, 0);
        desk.change(5, 2, 0);
        desk.effect(2, 6, 3);
        desk.effect(3, 4, 1);
        desk.effect(4, 5, 6);
        desk.effect(6, 1, 7);
        desk.post(1, 2, 3);
        desk.pump(16);
        desk.post(2, 3, 3);
        desk.post(4, 0, 0);
        desk.post(3, 0, 0);
        desk.post(1, 23, 1);
        desk.post(0, 4, 4);
    }

    /** As lively, but with 12 widgets and 16 events. */
    static void crowded(PaneDesk desk) {
        lively(desk);
        for (int widget = 8; widget < 12; widget++) {
            desk.make(0, 0, widget, 10, 3, 3, widget);
        }
        for (int i = 0; i < 11; i++) {
            desk.post(3, i % 10, 0);
        }
    }

    private static String face(PaneDesk desk) {
        StringBuilder text = new StringBuilder();
        for (int widget = 0; widget < 12; widget++) {
            text.append(" w").append(widget).append(':');
            for (int what = 0; what < 4; what++) {
                text.append(desk.rectangle(widget, what)).append(',');
            }
            for (int what = 0; what < 6; what++) {
                text.append(desk.state(widget, what)).append(',');
            }
        }
        text.append(" special:");
        for (int what = 0; what < 3; what++) {
            text.append(desk.special(what)).append(',');
        }
        text.append(" noted:");
        for (int k = -1; k < 16; k++) {
            text.append(desk.noted(k)).append(',');
        }
        return text.append(" screen:").append(desk.screen()).toString();
    }

    private static String widgetsAt(PaneDesk desk, int part) {
        StringBuilder text = new StringBuilder(" at:");
        for (int y = 16 / PARTS * part; y < 16 / PARTS * (part + 1); y++) {
            for (int x = 0; x < 32; x++) {
                text.append(desk.at(x, y)).append(',');
            }
        }
        return text.toString();
    }

    /** Carries out what waits, sets the effects to work, and makes widgets till there is no room. */
    private static String future(PaneDesk desk) {
        StringBuilder text = new StringBuilder();
        text.append(" pump:").append(desk.pump(16)).append(desk.screen());
        for (int i = 0; i < 6; i++) {
            text.append(" post:").append(desk.post(4, 0, 0)).append(',').append(desk.post(3, 0, 0));
            text.append(" pump:").append(desk.pump(16)).append(desk.screen());
        }
        for (int i = 0; i < 12; i++) {
            text.append(" make:").append(desk.make(0, 0, 2 * i, 12, 2, 2, i));
        }
        return text.append(" pump:").append(desk.pump(0)).toString();
    }
}
