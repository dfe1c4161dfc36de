/** Promises 1 to 16 in what texts, trays and the tape are about: 1, 5 to 12, and the faults of both texts. */
public final class TextTest {
    private static final String THING = " weighs 1 grips 1 minds 1;";

    public static void main(String[] args) {
        newObject();
        trays();
        pours();
        tape();
        glenTaken();
        glenFaults();
        daysTaken();
        daysFaults();
        oldOneStays();
        Checks.end();
    }

    private static void newObject() {
        ForgetStream x = new ForgetStream();
        Checks.due("1: status", x.status(), 0);
        Checks.fraction(x, "1: fraction", 0, 1);
        int[] due = {0, 0, 8, 10, 4, 0, 0, 1, 0, 0, 0, 0, 0, 0, 0};
        for (int i = 0; i < due.length; i++) {
            Checks.ok(x, "1: told(" + i + ")", x.told(i), due[i]);
        }
        Checks.due("1: fault(0)", x.fault(0), -1);
        Checks.due("1: fault(1)", x.fault(1), -1);
        for (int i = 0; i < 4; i++) {
            Checks.no(x, "1: tray " + i, x.read(i, 0), 2);
        }
        Checks.no(x, "1: no days", x.live(0), 6);
        Checks.no(x, "1: no marks", x.undo(), 6);
        Checks.due("1: an empty tape", x.feed(0, 0, 0, 0, 0), 20);
    }

    private static void trays() {
        ForgetStream x = new ForgetStream();
        Checks.no(x, "5: tray -1", x.tray(-1, 0, 1), 1);
        Checks.no(x, "5: tray 4", x.tray(4, 0, 1), 1);
        Checks.no(x, "5: sort -1", x.tray(0, -1, 1), 1);
        Checks.no(x, "5: sort 4", x.tray(0, 4, 1), 1);
        Checks.no(x, "5: many -1", x.tray(0, 0, -1), 1);
        Checks.no(x, "5: many 61", x.tray(0, 0, 61), 1);
        Checks.no(x, "5: still missing", x.read(0, 0), 2);
        Checks.ok(x, "5: none", x.tray(0, 0, 0));
        Checks.no(x, "7: a place of none", x.read(0, 0), 3);
        long v = 0x123456789ABCDEF8L;
        long[] due = {(byte) 0xF8, (short) 0xDEF8, 0x9ABCDEF8, v};
        for (int sort = 0; sort < 4; sort++) {
            Checks.ok(x, "5: sort " + sort, x.tray(sort, sort, 60));
            Checks.ok(x, "6: write", x.write(sort, 59, v));
            Checks.ok(x, "7: read sort " + sort, x.read(sort, 59), due[sort]);
            Checks.ok(x, "7: a 0", x.read(sort, 0), 0);
            Checks.ok(x, "6: write -1", x.write(sort, 0, -1));
            Checks.ok(x, "7: read -1", x.read(sort, 0), -1);
            Checks.no(x, "6: place 60", x.write(sort, 60, 1), 3);
            Checks.no(x, "6: place -1", x.write(sort, -1, 1), 3);
            Checks.no(x, "7: place 60", x.read(sort, 60), 3);
            Checks.no(x, "7: place -1", x.read(sort, -1), 3);
            Checks.ok(x, "5: laid anew", x.tray(sort, sort, 2));
            Checks.ok(x, "5: 0 again", x.read(sort, 0), 0);
        }
        Checks.no(x, "6: tray 4", x.write(4, 0, 1), 1);
        Checks.no(x, "7: tray -1", x.read(-1, 0), 1);
        ForgetStream y = new ForgetStream();
        Checks.no(y, "6: missing, no place", y.write(0, -1, 1), 2);
    }

    private static void pours() {
        ForgetStream x = new ForgetStream();
        x.tray(0, 1, 6);
        x.tray(1, 1, 4);
        x.tray(2, 2, 6);
        for (int i = 0; i < 6; i++) {
            x.write(0, i, i + 1);
        }
        Checks.ok(x, "8: over itself, up", x.pour(0, 0, 0, 1, 5));
        long[] due = {1, 1, 2, 3, 4, 5};
        for (int i = 0; i < 6; i++) {
            Checks.due("8: place " + i, x.read(0, i), due[i]);
        }
        Checks.ok(x, "8: over itself, down", x.pour(0, 2, 0, 0, 4));
        long[] due2 = {2, 3, 4, 5, 4, 5};
        for (int i = 0; i < 6; i++) {
            Checks.due("8: place " + i, x.read(0, i), due2[i]);
        }
        Checks.ok(x, "8: another", x.pour(0, 1, 1, 2, 2));
        Checks.due("8: its place 2", x.read(1, 2), 3);
        Checks.due("8: its place 3", x.read(1, 3), 4);
        Checks.due("8: its place 1", x.read(1, 1), 0);
        Checks.ok(x, "8: none at the end", x.pour(0, 6, 1, 4, 0));
        Checks.no(x, "8: none behind the end", x.pour(0, 7, 1, 4, 0), 3);
        Checks.no(x, "8: tray 4", x.pour(4, 0, 0, 0, 0), 1);
        Checks.no(x, "8: to tray -1", x.pour(0, 0, -1, 0, 0), 1);
        Checks.no(x, "8: place -1", x.pour(0, -1, 3, 0, 1), 1);
        Checks.no(x, "8: at -1", x.pour(3, 0, 0, -1, 1), 1);
        Checks.no(x, "8: many -1", x.pour(0, 0, 2, 0, -1), 1);
        Checks.no(x, "8: missing ahead of unlike", x.pour(3, 0, 0, 0, 1), 2);
        Checks.no(x, "8: to a missing one", x.pour(0, 0, 3, 0, 99), 2);
        Checks.no(x, "8: unlike ahead of places", x.pour(0, 99, 2, 0, 1), 8);
        Checks.no(x, "8: too few to take", x.pour(0, 3, 1, 0, 4), 3);
        Checks.no(x, "8: too few to put", x.pour(0, 0, 1, 2, 3), 3);
        Checks.no(x, "8: far too many", x.pour(0, 1, 1, 1, Integer.MAX_VALUE), 3);
        Checks.no(x, "8: a far place", x.pour(0, Integer.MAX_VALUE, 1, 1, 1), 3);
    }

    private static void tape() {
        ForgetStream x = new ForgetStream();
        for (int i = 1; i <= 45; i++) {
            Checks.due("9: feed " + i, x.feed(0, 0, 0, 0, 0), 20 * i);
        }
        Checks.due("9: one more", x.feed(0, 0, 0, 0, 0), -1);
        Checks.due("9: no status", x.status(), 0);
        Checks.no(x, "10: n above the tape", x.glen(901), 1);
        Checks.no(x, "10: n below 0", x.glen(-1), 1);
        Checks.no(x, "11: n above 300", x.days(301), 1);
        Checks.no(x, "11: n below 0", x.days(-1), 1);
        Checks.due("12: no fault of these", x.fault(0), -1);
        Checks.due("9: the tape stays", x.feed(0, 0, 0, 0, 0), -1);
        Checks.due("9: status stays", x.status(), 1);
        Checks.no(x, "10: a byte 0", x.glen(900), 9);
        Checks.due("9: the tape is empty", x.feed(0, 0, 0, 0, 0), 20);
        Checks.no(x, "11: more than the tape has", x.days(21), 1);
        Checks.due("12: of the latest with a fault", x.fault(0), 1);
        Checks.due("12: others", x.fault(2), -1);
        Checks.due("12: others", x.fault(-1), -1);
        Checks.due("12: no status", x.status(), 1);
        Checks.ok(x, "10: no bytes", x.glen(0), 0);
        Checks.due("12: no fault", x.fault(0), 0);
        Checks.due("12: no place", x.fault(1), -1);
        Checks.due("9: empty again", x.feed(0, 0, 0, 0, 0), 20);
        // the highest byte of each int first
        ForgetStream y = new ForgetStream();
        y.feed(0x6C6F6E67, 0x20393B20, 0x2020200A, 0x20202020, 0x20202020);
        Checks.ok(y, "9: long 9;", y.glen(20), 0);
        Checks.ok(y, "9: told(2)", y.told(2), 9);
    }

    private static void glenTaken() {
        ForgetStream x = new ForgetStream();
        x.make(1, 1, 1);
        x.build(0, 0);
        x.toss(0, 0);
        x.hour(9);
        Checks.days(x, "hour 1;");
        Checks.ok(x, "10: all told", Checks.glen(x, "odds 0;load 40;long16;\nstream 15up;thing oarblade weighs 0 grips 24"
                + " minds 24 lies 15;thing b weighs 09 grips 0001 minds 1;mill a at 15 both;mill c at0up;"), 2);
        int[] due = {2, 2, 16, 40, 0, 0, 15, 0, 0, 2, 1, 0, 0, 0, 0};
        for (int i = 0; i < due.length; i++) {
            Checks.ok(x, "13: told(" + i + ")", x.told(i), due[i]);
        }
        int[] thing = {0, 24, 24, 1, 0, 0};
        for (int i = 0; i < thing.length; i++) {
            Checks.ok(x, "14: thing(0, " + i + ")", x.thing(0, i), thing[i]);
        }
        Checks.ok(x, "14: weight 09", x.thing(1, 0), 9);
        Checks.ok(x, "15: cellOf(0)", x.cellOf(0), 15);
        int[] mill = {15, 2, 0};
        for (int i = 0; i < mill.length; i++) {
            Checks.ok(x, "16: mill(0, " + i + ")", x.mill(0, i), mill[i]);
        }
        Checks.ok(x, "16: up", x.mill(1, 1), 0);
        Checks.no(x, "10: the days are gone", x.live(1), 6);
        // what a glen leaves untold is as at first, not as it was
        Checks.ok(x, "10: only blanks", Checks.glen(x, " \n "), 0);
        Checks.ok(x, "10: long is 8", x.told(2), 8);
        Checks.ok(x, "10: load is 10", x.told(3), 10);
        Checks.ok(x, "10: odds are 4", x.told(4), 4);
        Checks.ok(x, "10: runs down", x.told(7), 1);
        Checks.ok(x, "10: no mills", x.told(1), 0);
    }

    private static void fault(boolean ofGlen, ForgetStream x, String text, int kind, int place) {
        String what = (ofGlen ? "glen: " : "days: ") + text;
        Checks.no(x, what, ofGlen ? Checks.glen(x, text) : Checks.days(x, text), 9);
        Checks.due(what + ": kind", x.fault(0), kind);
        Checks.due(what + ": place", x.fault(1), place);
    }

    private static void glenFault(String text, int kind, int place) {
        fault(true, new ForgetStream(), text, kind, place);
    }

    private static void glenFaults() {
        glenFault("Long 8;", 1, 0);
        glenFault("long 12345;", 1, 5);
        glenFault("12345", 1, 0);
        glenFault("long 9A", 1, 6);
        glenFault("long\t9;", 1, 4);
        glenFault("long \u00ff", 1, 5);
        glenFault("long 9;\u0000", 1, 7);
        glenFault("load 41\u0000", 4, 5);
        glenFault("long", 2, 4);
        glenFault("long  ", 2, 6);
        glenFault("long 9", 2, 6);
        glenFault("long 9 9;", 2, 7);
        glenFault("long;", 2, 4);
        glenFault("long 9=", 2, 6);
        glenFault("long 9>;", 2, 6);
        glenFault("long 9 59", 2, 7);
        glenFault("; long 9;", 2, 0);
        glenFault("up;", 2, 0);
        glenFault("hour 3;", 2, 0);
        glenFault("longs 9;", 2, 0);
        glenFault("abcdefghij", 2, 0);
        glenFault("stream 0 up up;", 2, 12);
        glenFault("thing 5", 2, 6);
        glenFault("thing stop weighs", 2, 6);
        glenFault("thing abcdefghi", 2, 6);
        glenFault("thing a weighs 1 grips 1 minds 1 up;", 2, 33);
        glenFault("mill m at 0 down up;", 2, 17);
        glenFault("mill m at 0 at", 2, 12);
        glenFault("mill m = 0", 2, 7);
        glenFault("thing t" + THING + "mill t at", 3, 38);
        glenFault("mill t at 0 up;thing t", 3, 21);
        glenFault("mill t at 0 up;mill t", 3, 20);
        glenFault("long 1;", 4, 5);
        glenFault("odds 17;", 4, 5);
        glenFault("stream 8", 4, 7);
        glenFault("long 4;stream 4;", 4, 14);
        glenFault("long 4;thing a weighs 1 grips 1 minds 1 lies 4;", 4, 45);
        glenFault("long 4;mill m at 4 up;", 4, 17);
        glenFault("thing a weighs 1 grips 1 minds 0", 4, 31);
        glenFault("long 8;long", 5, 7);
        glenFault("odds 8;odds", 5, 7);
        glenFault("load 8;load 99", 5, 7);
        glenFault("stream 0;stream 0;", 5, 9);
        glenFault("stream 0;long 99;", 5, 9);
        glenFault("mill a at 0 up;long 9;", 5, 15);
        glenFault("thing t" + THING + "long 9;", 5, 33);
        StringBuilder eight = new StringBuilder();
        for (char name = 'a'; name <= 'h'; name++) {
            eight.append("thing ").append(name).append(THING);
        }
        ForgetStream x = Checks.with(eight.toString());
        Checks.ok(x, "glen: eight things", x.told(0), 8);
        glenFault(eight + "thing a", 6, eight.length());
        String four = "mill a at 0 up;mill b at 0 up;mill c at 0 up;mill d at 0 up;";
        ForgetStream y = Checks.with(four);
        Checks.ok(y, "glen: four mills", y.told(1), 4);
        glenFault(four + "mill", 6, four.length());
    }

    private static ForgetStream small() {
        return Checks.with("long 4;thing a weighs 1 grips 9 minds 2;thing b weighs 1 grips 9 minds 2;mill m at 2 both;");
    }

    private static void daysTaken() {
        ForgetStream x = small();
        Checks.ok(x, "11: all steps", Checks.days(x, "hour 24;throw a 3;fetch b;any;when lies a;stop;end;when runs up;end;"
                + "when runs down;end;when at<15;end;when at>0;loop 99;when at=7;end;end;end;when ground m=9999;end;stop;"), 14);
        Checks.due("12: no fault", x.fault(0), 0);
        Checks.due("12: no place", x.fault(1), -1);
        Checks.ok(x, "11: no steps", x.days(0), 0);
        Checks.ok(x, "52: days without a step", x.live(0), 0);
        StringBuilder thirty = new StringBuilder();
        for (int i = 0; i < 10; i++) {
            thirty.append("loop 1;any;end;any;");
        }
        Checks.ok(x, "11: thirty steps", Checks.days(x, thirty.toString()), 30);
        fault(false, x, thirty + "any;", 6, thirty.length());
        fault(false, x, thirty + "loop 0;", 6, thirty.length());
        fault(false, x, thirty + "end;", 2, thirty.length());
        fault(false, x, thirty + "long 1;", 2, thirty.length());
        Checks.ok(x, "52: the old ones stay", x.live(0), 30);
        StringBuilder long300 = new StringBuilder("any;");
        while (long300.length() < 300) {
            long300.append(' ');
        }
        Checks.ok(x, "11: of 300 bytes", Checks.days(x, long300.toString()), 1);
    }

    private static void daysFaults() {
        ForgetStream x = small();
        fault(false, x, "hour 1; ?", 1, 8);
        fault(false, x, "hour 00001;", 1, 5);
        fault(false, x, "hour", 2, 4);
        fault(false, x, "hour ;", 2, 5);
        fault(false, x, "end;", 2, 0);
        fault(false, x, "any;end;", 2, 4);
        fault(false, x, "loop 2;any;", 2, 11);
        fault(false, x, "loop 2;any;end", 2, 14);
        fault(false, x, "loop 2;when at=1;end;", 2, 21);
        fault(false, x, "long 8;", 2, 0);
        fault(false, x, "when at 3;", 2, 8);
        fault(false, x, "when at;3;", 2, 7);
        fault(false, x, "when runs both;", 2, 10);
        fault(false, x, "when hour 3;", 2, 5);
        fault(false, x, "when lies lies;", 2, 10);
        fault(false, x, "throw abcdefghi 3;", 2, 6);
        fault(false, x, "throw 3 a;", 2, 6);
        fault(false, x, "stop 1;", 2, 5);
        fault(false, x, "throw c 1;", 3, 6);
        fault(false, x, "throw m 1;", 3, 6);
        fault(false, x, "fetch m;", 3, 6);
        fault(false, x, "when lies m;", 3, 10);
        fault(false, x, "when ground a=1;", 3, 12);
        fault(false, x, "hour 0;", 4, 5);
        fault(false, x, "hour 25;", 4, 5);
        fault(false, x, "throw a 4;", 4, 8);
        fault(false, x, "loop 0;", 4, 5);
        fault(false, x, "loop 100;", 4, 5);
        fault(false, x, "when at=16;", 4, 8);
        fault(false, x, "loop 1;loop 1;when at=1;when at=1;end;", 7, 24);
        fault(false, x, "loop 1;loop 1;when at=1;loop", 7, 24);
        x.make(1, 1, 1);
        fault(false, x, "throw c 1;", 3, 6);
        Checks.no(x, "52: none was taken", x.live(0), 6);
    }

    private static void oldOneStays() {
        ForgetStream x = small();
        x.hour(2);
        Checks.days(x, "hour 1;");
        fault(true, x, "long 5;thing", 2, 12);
        Checks.ok(x, "10: the old one stays", x.told(2), 4);
        Checks.ok(x, "10: its hour, too", x.told(5), 2);
        Checks.ok(x, "10: its things, too", x.told(0), 2);
        Checks.ok(x, "10: its days, too", x.live(0), 1);
    }
}
