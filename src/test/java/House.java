/** An object with something of everything in it, and all that can be seen of an object. */
final class House {
    /** 0 h, 1 c, 2 l, 3 s, 4 t. */
    static final int HOME = 0;
    static final int CARRIED = 1;
    static final int LIES = 2;
    static final int ASHORE = 3;
    static final int ASHORE_TOO = 4;

    /** Trays: four numbers of 8 bits, sixty of 8 bits (the last is -7), eight of 64 bits, and one that is missing. */
    static final int FEW = 0;
    static final int SIXTY = 1;
    static final int WIDE = 2;
    static final int MISSING = 3;

    private static final String GLEN = "long 5;load 9;odds 5;stream 4;"
            + "thing h weighs 1 grips 24 minds 1 lies 4;thing c weighs 2 grips 24 minds 1 lies 1;"
            + "thing l weighs 3 grips 3 minds 24 lies 2;thing s weighs 4 grips 4 minds 4;thing t weighs 0 grips 1 minds 2;"
            + "mill u at 2 up;mill d at 4 down;mill b at 3 both;mill n at 0 up;";

    private House() {
    }

    /** In hours: 1 it stands in the sea, 2 h is home, 3 it turns, 4 in 3, 5 in 2, 6 in 1 (c is carried), 7 it turns. */
    static ForgetStream full() {
        ForgetStream x = new ForgetStream();
        Checks.days(x, "hour 3;any;");
        x.live(9);
        Checks.glen(x, GLEN);
        x.mark();
        x.hour(5);
        Checks.days(x, "hour 1;");
        x.mark();
        x.hour(2);
        Checks.days(x, "loop 2;any;hour 3;end;when lies l;fetch l;end;");
        x.tray(FEW, 0, 4);
        x.write(FEW, 0, 5);
        x.write(FEW, 1, 1);
        x.write(FEW, 2, 9);
        x.tray(SIXTY, 0, 60);
        x.write(SIXTY, 59, -7);
        x.tray(WIDE, 3, 8);
        x.write(WIDE, 0, Long.MIN_VALUE);
        x.rain(2, 1);
        Checks.glen(x, "long 5;long");
        Checks.feed(x, "long 9;");
        return x;
    }

    /** All that can be seen; it uses the object up. */
    static String look(ForgetStream x) {
        StringBuilder s = new StringBuilder();
        s.append("fault ").append(x.fault(0)).append(" at ").append(x.fault(1)).append('\n');
        lookAtAllElse(x, s);
        int taped = x.feed(0, 0, 0, 0, 0);
        s.append("tape ").append(taped).append(", as a glen ").append(x.glen(Math.min(taped, 7)));
        s.append(" of ").append(x.told(2)).append('\n');
        return s.toString();
    }

    /** All but the fault and the tape. */
    static String lookWithoutTexts(ForgetStream x) {
        StringBuilder s = new StringBuilder();
        lookAtAllElse(x, s);
        return s.toString();
    }

    /** What marks keep: the glen with all that became of it, and the days. */
    static String lookAtGlens(ForgetStream x) {
        StringBuilder s = new StringBuilder();
        glens(x, s);
        return s.toString();
    }

    private static void lookAtAllElse(ForgetStream x, StringBuilder s) {
        s.append("fraction ").append(x.top()).append('/').append(x.bottom()).append('\n');
        trays(x, s);
        lived(x, s);
        glens(x, s);
    }

    private static void glens(ForgetStream x, StringBuilder s) {
        world(x, s);
        days(x, s);
        int left = x.undo();
        for (int i = 0; i < 4 && left >= 0; i++) {
            s.append("marks left ").append(left).append('\n');
            world(x, s);
            days(x, s);
            left = x.undo();
        }
        s.append("no mark: ").append(x.status()).append('\n');
    }

    private static void trays(ForgetStream x, StringBuilder s) {
        for (int tray = 0; tray < 4; tray++) {
            s.append("tray ").append(tray).append(':');
            for (int place = 0; place <= 60; place++) {
                long v = x.read(tray, place);
                if (x.status() != 0) {
                    break;
                }
                s.append(' ').append(v);
            }
            s.append(" then ").append(x.status()).append('\n');
        }
    }

    private static void world(ForgetStream x, StringBuilder s) {
        s.append("told");
        for (int what = 0; what < 15; what++) {
            s.append(' ').append(x.told(what));
        }
        int things = x.told(0);
        for (int thing = 0; thing < things; thing++) {
            s.append("\nthing");
            for (int what = 0; what < 6; what++) {
                s.append(' ').append(x.thing(thing, what));
            }
            s.append(" in ").append(x.cellOf(thing));
        }
        int mills = x.told(1);
        for (int mill = 0; mill < mills; mill++) {
            s.append("\nmill");
            for (int what = 0; what < 3; what++) {
                s.append(' ').append(x.mill(mill, what));
            }
        }
        s.append("\ngoal ").append(x.goal()).append(" of ").append(x.goalThing()).append('\n');
    }

    private static void lived(ForgetStream x, StringBuilder s) {
        s.append("lived");
        for (int what = 0; what < 5; what++) {
            s.append(' ').append(x.lived(what));
        }
        s.append('\n');
    }

    /** Days can be seen by what they do alone. */
    private static void days(ForgetStream x, StringBuilder s) {
        s.append("days ").append(x.live(77)).append(", hour ").append(x.told(5)).append(", lie ").append(x.told(10));
        s.append(", ashore ").append(x.told(9)).append(", turns ").append(x.told(8)).append('\n');
    }
}
