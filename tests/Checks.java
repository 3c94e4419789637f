/** What the tests of the project share: due answers, due throws, texts told. */
final class Checks {
    private int wrong = 0;
    private int many = 0;

    interface Call {
        long answer();
    }

    interface Deed {
        void happen();
    }

    void due(String call, long got, long want) {
        many++;
        if (got != want) {
            wrong++;
            System.out.println(call + " answered " + got + ", due is " + want);
        }
    }

    void due(String call, boolean got, boolean want) {
        due(call, got ? 1 : 0, want ? 1 : 0);
    }

    /** The call throws just this: neither nothing nor a class below or above it. */
    void refused(String call, Class<? extends RuntimeException> want, Call asked) {
        many++;
        String got;
        try {
            got = "answered " + asked.answer();
        } catch (RuntimeException e) {
            got = "threw " + e.getClass().getName();
            if (e.getClass() == want) {
                return;
            }
        }
        wrong++;
        System.out.println(call + " " + got + ", due is a throw of " + want.getName());
    }

    void refusedDeed(String call, Class<? extends RuntimeException> want, Deed deed) {
        refused(call, want, () -> {
            deed.happen();
            return 0;
        });
    }

    /** Prints how many were asked, and ends the run; with 1 if an answer was wrong. */
    void end(String name) {
        System.out.println(name + ": " + many + " answers, " + wrong + " wrong");
        System.exit(wrong == 0 && many > 0 ? 0 : 1);
    }

    /** Feeds a text, filled with blanks to twenties of bytes. */
    static void feed(DebtStreet x, String text) {
        for (int i = 0; i < text.length(); i += 20) {
            x.feed(bytes(text, i), bytes(text, i + 4), bytes(text, i + 8), bytes(text, i + 12), bytes(text, i + 16));
        }
    }

    private static int bytes(String text, int from) {
        int all = 0;
        for (int i = from; i < from + 4; i++) {
            all = all << 8 | (i < text.length() ? text.charAt(i) & 255 : 32);
        }
        return all;
    }

    static int tell(DebtStreet x, String text) {
        feed(x, text);
        return x.street(text.length());
    }

    static DebtStreet told(String text) {
        DebtStreet x = new DebtStreet();
        int lines = tell(x, text);
        if (lines < 1) {
            throw new IllegalStateException("fault " + x.fault(0) + " at " + x.fault(1) + " in: " + text);
        }
        return x;
    }

    static void fill(DebtStreet x, int tray, int sort, long... row) {
        x.tray(tray, sort, row.length);
        for (int i = 0; i < row.length; i++) {
            x.write(tray, i, row[i]);
        }
    }
}
