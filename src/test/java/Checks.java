/** What the tests of the project share: the answers that are due, and texts onto the tape. */
final class Checks {
    private static int wrong = 0;

    private Checks() {
    }

    static void due(String what, long got, long due) {
        if (got != due) {
            wrong++;
            System.out.println(what + " answered " + got + ", due is " + due);
        }
    }

    static void due(String what, boolean got, boolean due) {
        due(what, got ? 1 : 0, due ? 1 : 0);
    }

    static void same(String what, String got, String due) {
        if (!got.equals(due)) {
            wrong++;
            System.out.println(what + ": there is\n" + got + "due is\n" + due);
        }
    }

    /** A call that was not to be done, by its answer and its status. */
    static void no(ForgetStream x, String what, long got, int status) {
        due(what, got, ForgetStream.NONE);
        due(what + ": status", x.status(), status);
    }

    static void no(ForgetStream x, String what, boolean got, int status) {
        due(what, got, false);
        due(what + ": status", x.status(), status);
    }

    /** A call that was done, by its answer and status 0. */
    static void ok(ForgetStream x, String what, long got, long due) {
        due(what, got, due);
        due(what + ": status", x.status(), 0);
    }

    static void ok(ForgetStream x, String what, boolean got) {
        due(what, got, true);
        due(what + ": status", x.status(), 0);
    }

    static void fraction(ForgetStream x, String what, long top, long bottom) {
        due(what + ": top", x.top(), top);
        due(what + ": bottom", x.bottom(), bottom);
    }

    static void feed(ForgetStream x, String text) {
        for (int i = 0; i < text.length(); i += 20) {
            x.feed(four(text, i), four(text, i + 4), four(text, i + 8), four(text, i + 12), four(text, i + 16));
        }
    }

    private static int four(String text, int at) {
        int four = 0;
        for (int i = at; i < at + 4; i++) {
            four = four << 8 | (i < text.length() ? text.charAt(i) & 255 : 0);
        }
        return four;
    }

    static int glen(ForgetStream x, String text) {
        feed(x, text);
        return x.glen(text.length());
    }

    static int days(ForgetStream x, String text) {
        feed(x, text);
        return x.days(text.length());
    }

    /** A new object with a glen that must be taken. */
    static ForgetStream with(String glen) {
        ForgetStream x = new ForgetStream();
        glen(x, glen);
        due("glen " + glen + ": status", x.status(), 0);
        return x;
    }

    static void end() {
        if (wrong > 0) {
            System.out.println(wrong + " answers are not as due");
            System.exit(1);
        }
    }
}
