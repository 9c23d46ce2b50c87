/** Compares answers with those that are due, and ends a test with exit code 1 if one was wrong. */
final class Due {
    private static int wrong = 0;
    private static String sentence = "";

    private Due() {
    }

    /** The words of the document that the calls from here on are due to. */
    static void sentence(String words) {
        sentence = words;
    }

    static void is(String call, long got, long want) {
        if (got != want) {
            tell(call + " answered " + got + ", due is " + want);
        }
    }

    private static void tell(String what) {
        wrong++;
        if (!sentence.isEmpty()) {
            System.out.println("\"" + sentence + "\"");
        }
        System.out.println(what);
    }

    static void is(String call, boolean got, boolean want) {
        is(call, got ? 1L : 0L, want ? 1L : 0L);
    }

    static void same(String call, String got, String want) {
        if (!got.equals(want)) {
            tell(call + " gave\n  " + got + "\n  due is\n  " + want);
        }
    }

    static void rectangle(PaneDesk desk, int widget, int left, int top, int width, int height) {
        is("rectangle(" + widget + ", 0)", desk.rectangle(widget, 0), left);
        is("rectangle(" + widget + ", 1)", desk.rectangle(widget, 1), top);
        is("rectangle(" + widget + ", 2)", desk.rectangle(widget, 2), width);
        is("rectangle(" + widget + ", 3)", desk.rectangle(widget, 3), height);
    }

    static void specials(PaneDesk desk, int over, int pressed, int focus) {
        is("special(0)", desk.special(0), over);
        is("special(1)", desk.special(1), pressed);
        is("special(2)", desk.special(2), focus);
    }

    /** The latest notes are these, the oldest of them first, and there were as many in all as said. */
    static void notes(PaneDesk desk, int count, int... latest) {
        is("noted(-1)", desk.noted(-1), count);
        for (int k = 0; k < latest.length; k++) {
            is("noted(" + k + ")", desk.noted(k), latest[latest.length - 1 - k]);
        }
    }

    static void post(PaneDesk desk, int kind, int x, int y) {
        int waiting = desk.post(kind, x, y);
        if (waiting < 1) {
            is("post(" + kind + ", " + x + ", " + y + ")", waiting, 1);
        }
    }

    /** Presses and releases at a pixel, and carries both out. */
    static void click(PaneDesk desk, int x, int y) {
        post(desk, 1, x, y);
        post(desk, 2, x, y);
        is("pump(16)", desk.pump(16), 2);
    }

    /** The first numbers outside of a range on either side, and the last ones that there are. */
    static int[] outside(int least, int greatest) {
        return new int[] {least - 1, greatest + 1, Integer.MIN_VALUE, Integer.MAX_VALUE};
    }

    static void end() {
        if (wrong != 0) {
            System.out.println(wrong + " answers are not as due");
            System.exit(1);
        }
    }
}
