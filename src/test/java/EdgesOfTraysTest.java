/** Trays and the tape at their ends: promises 5 to 12 as far as no text is read, and new objects. */
public final class EdgesOfTraysTest {
    public static void main(String[] args) {
        missingAtFirst();
        emptyTray();
        fullTray();
        numbersOf8Bits();
        numbersOf16Bits();
        numbersOf32Bits();
        numbersOf64Bits();
        minusOneIsNotNone();
        laidAnewItIsOf0s();
        laidLongerTheOldDoNotShow();
        eachTrayByItself();
        pourAll();
        pourNothing();
        pourOverItself();
        pourNumbersAsTheyWere();
        pourBetweenEachSort();
        pourLeavesTheOthers();
        tapeEmptyAndFull();
        tapeByBytes();
        tapeIsGoneBehindGlen();
        firstBytesAlone();
        faultAheadOfAny();
        Checks.end();
    }

    /** "TRAYS 0 to 3 are MISSING at first" */
    private static void missingAtFirst() {
        for (int tray = 0; tray < 4; tray++) {
            ForgetStream x = new ForgetStream();
            Checks.no(x, "5: tray " + tray + " at first", x.read(tray, 0), 2);
            Checks.no(x, "5: tray " + tray + " can't be written", x.write(tray, 0, 1), 2);
        }
    }

    /** "rows of 0 .." */
    private static void emptyTray() {
        ForgetStream x = new ForgetStream();
        Checks.ok(x, "5: an empty one", x.tray(2, 1, 0));
        Checks.no(x, "6: it has no place 0", x.write(2, 0, 1), 3);
        Checks.no(x, "7: it has no place 0", x.read(2, 0), 3);
        Checks.ok(x, "51: no things into it", x.copyHours(2), 0);
        Checks.ok(x, "8: nothing out of it, into it", x.pour(2, 0, 2, 0, 0));
        x.make(1, 1, 1);
        Checks.ok(x, "40: no twos of it", x.minded(0, 2, 0), 24);
        Checks.no(x, "51: one thing is too many for it", x.copyHours(2), 3);
    }

    /** ".. to 60 numbers" */
    private static void fullTray() {
        ForgetStream x = new ForgetStream();
        Checks.ok(x, "5: a full one", x.tray(1, 2, 60));
        for (int i = 0; i < 60; i++) {
            Checks.ok(x, "5: a 0", x.read(1, i), 0);
            Checks.ok(x, "6: place " + i, x.write(1, i, 1000 + i));
        }
        for (int i = 0; i < 60; i++) {
            Checks.ok(x, "7: place " + i, x.read(1, i), 1000 + i);
        }
        Checks.no(x, "6: place 60", x.write(1, 60, 1), 3);
        Checks.no(x, "7: place 60", x.read(1, 60), 3);
    }

    private static void cut(int sort, long v, long due) {
        ForgetStream x = new ForgetStream();
        x.tray(0, sort, 1);
        Checks.ok(x, "6: " + v + " to sort " + sort, x.write(0, 0, v));
        Checks.ok(x, "7: " + v + " cut to sort " + sort, x.read(0, 0), due);
    }

    /** "cut to its sort": 8 bits (sort 0) */
    private static void numbersOf8Bits() {
        cut(0, 127, 127);
        cut(0, 128, -128);
        cut(0, 255, -1);
        cut(0, 256, 0);
        cut(0, -128, -128);
        cut(0, -129, 127);
        cut(0, -256, 0);
        cut(0, Long.MAX_VALUE, -1);
        cut(0, Long.MIN_VALUE, 0);
    }

    /** 16 (1) */
    private static void numbersOf16Bits() {
        cut(1, 255, 255);
        cut(1, 32767, 32767);
        cut(1, 32768, -32768);
        cut(1, 65535, -1);
        cut(1, 65536, 0);
        cut(1, -32768, -32768);
        cut(1, -32769, 32767);
        cut(1, Long.MAX_VALUE, -1);
        cut(1, Long.MIN_VALUE, 0);
    }

    /** 32 (2) */
    private static void numbersOf32Bits() {
        cut(2, 65535, 65535);
        cut(2, 2147483647L, 2147483647L);
        cut(2, 2147483648L, -2147483648L);
        cut(2, 4294967295L, -1);
        cut(2, 4294967296L, 0);
        cut(2, -2147483648L, -2147483648L);
        cut(2, -2147483649L, 2147483647L);
        cut(2, Long.MAX_VALUE, -1);
        cut(2, Long.MIN_VALUE, 0);
    }

    /** 64 (3) */
    private static void numbersOf64Bits() {
        cut(3, 4294967296L, 4294967296L);
        cut(3, -2147483649L, -2147483649L);
        cut(3, Long.MAX_VALUE, Long.MAX_VALUE);
        cut(3, Long.MIN_VALUE, Long.MIN_VALUE);
    }

    /** "STATUS tells NONE from -1" */
    private static void minusOneIsNotNone() {
        ForgetStream x = new ForgetStream();
        x.tray(0, 3, 1);
        x.write(0, 0, -1);
        Checks.ok(x, "7: -1", x.read(0, 0), -1);
        Checks.no(x, "7: NONE", x.read(0, 1), 3);
    }

    /** "A TRAY is a row of so many 0s" */
    private static void laidAnewItIsOf0s() {
        ForgetStream x = new ForgetStream();
        x.tray(0, 3, 2);
        x.write(0, 0, Long.MIN_VALUE);
        x.write(0, 1, 9);
        Checks.ok(x, "5: anew, as it was", x.tray(0, 3, 2));
        Checks.ok(x, "5: place 0", x.read(0, 0), 0);
        Checks.ok(x, "5: place 1", x.read(0, 1), 0);
        Checks.ok(x, "5: of another sort", x.tray(0, 0, 2));
        x.write(0, 0, 300);
        Checks.ok(x, "5: which cuts", x.read(0, 0), 44);
        Checks.ok(x, "5: empty", x.tray(0, 0, 0));
        Checks.no(x, "5: no place 0 any more", x.read(0, 0), 3);
    }

    private static void laidLongerTheOldDoNotShow() {
        ForgetStream x = new ForgetStream();
        x.tray(0, 1, 60);
        x.write(0, 59, 7);
        x.tray(0, 1, 3);
        Checks.no(x, "5: shorter", x.read(0, 59), 3);
        Checks.no(x, "5: shorter by all", x.read(0, 3), 3);
        x.tray(0, 1, 60);
        Checks.ok(x, "5: longer again", x.read(0, 59), 0);
    }

    private static void eachTrayByItself() {
        ForgetStream x = new ForgetStream();
        for (int tray = 0; tray < 4; tray++) {
            x.tray(tray, 3 - tray, 1 + tray);
            x.write(tray, tray, 100 + tray);
        }
        for (int tray = 0; tray < 4; tray++) {
            Checks.ok(x, "6: tray " + tray, x.read(tray, tray), 100 + tray);
            Checks.no(x, "5: tray " + tray + " is as long as it was told", x.read(tray, tray + 1), 3);
        }
    }

    private static ForgetStream counting(int sort, int many) {
        ForgetStream x = new ForgetStream();
        x.tray(0, sort, many);
        for (int i = 0; i < many; i++) {
            x.write(0, i, i + 1);
        }
        return x;
    }

    private static void row(ForgetStream x, String what, int tray, long... due) {
        for (int i = 0; i < due.length; i++) {
            Checks.ok(x, what + ", place " + i, x.read(tray, i), due[i]);
        }
    }

    private static void pourAll() {
        ForgetStream x = counting(0, 60);
        x.tray(1, 0, 60);
        Checks.ok(x, "8: all sixty", x.pour(0, 0, 1, 0, 60));
        for (int i = 0; i < 60; i++) {
            Checks.ok(x, "8: place " + i, x.read(1, i), i + 1);
        }
        Checks.ok(x, "8: the last to the first", x.pour(0, 59, 1, 0, 1));
        row(x, "8: the last to the first", 1, 60, 2, 3);
        Checks.ok(x, "8: the first to the last", x.pour(0, 0, 1, 59, 1));
        Checks.ok(x, "8: the first to the last", x.read(1, 59), 1);
        Checks.ok(x, "8: the last but one stays", x.read(1, 58), 59);
    }

    private static void pourNothing() {
        ForgetStream x = counting(0, 3);
        x.tray(1, 0, 2);
        Checks.ok(x, "8: none from the first places", x.pour(0, 0, 1, 0, 0));
        Checks.ok(x, "8: none from the ends", x.pour(0, 3, 1, 2, 0));
        row(x, "8: nothing came", 1, 0, 0);
        Checks.no(x, "8: none from behind the end", x.pour(0, 4, 1, 0, 0), 3);
        Checks.no(x, "8: none to behind the end", x.pour(0, 0, 1, 3, 0), 3);
    }

    /** "come to another one's (or its own) place on, as they were" */
    private static void pourOverItself() {
        ForgetStream x = counting(2, 5);
        Checks.ok(x, "8: a place up", x.pour(0, 0, 0, 1, 4));
        row(x, "8: a place up", 0, 1, 1, 2, 3, 4);
        x = counting(2, 5);
        Checks.ok(x, "8: a place down", x.pour(0, 1, 0, 0, 4));
        row(x, "8: a place down", 0, 2, 3, 4, 5, 5);
        x = counting(2, 5);
        Checks.ok(x, "8: where they are", x.pour(0, 0, 0, 0, 5));
        row(x, "8: where they are", 0, 1, 2, 3, 4, 5);
    }

    private static void pourNumbersAsTheyWere() {
        ForgetStream x = new ForgetStream();
        x.tray(0, 3, 2);
        x.tray(1, 3, 2);
        x.write(0, 0, Long.MIN_VALUE);
        x.write(0, 1, -1);
        Checks.ok(x, "8: below 0, too", x.pour(0, 0, 1, 0, 2));
        row(x, "8: below 0, too", 1, Long.MIN_VALUE, -1);
    }

    private static void pourBetweenEachSort() {
        ForgetStream x = new ForgetStream();
        for (int sort = 0; sort < 4; sort++) {
            for (int other = 0; other < 4; other++) {
                x.tray(0, sort, 1);
                x.tray(1, other, 1);
                x.write(0, 0, 5);
                String what = "8: sort " + sort + " to sort " + other;
                if (sort == other) {
                    Checks.ok(x, what, x.pour(0, 0, 1, 0, 1));
                    Checks.ok(x, what, x.read(1, 0), 5);
                } else {
                    Checks.no(x, what, x.pour(0, 0, 1, 0, 1), 8);
                    Checks.ok(x, what + " changes nothing", x.read(1, 0), 0);
                }
            }
        }
    }

    private static void pourLeavesTheOthers() {
        ForgetStream x = counting(1, 6);
        x.tray(1, 1, 6);
        Checks.ok(x, "8: two", x.pour(0, 3, 1, 2, 2));
        row(x, "8: two came", 1, 0, 0, 4, 5, 0, 0);
        row(x, "8: they stay where they came from", 0, 1, 2, 3, 4, 5, 6);
    }

    /** "NONE if there would be more than 900" */
    private static void tapeEmptyAndFull() {
        ForgetStream x = new ForgetStream();
        for (int i = 1; i <= 45; i++) {
            Checks.due("9: " + 20 * i + " bytes", x.feed(0, 0, 0, 0, 0), 20 * i);
        }
        Checks.due("9: 920 would be too many", x.feed(-1, -1, -1, -1, -1), -1);
        Checks.due("9: and again", x.feed(-1, -1, -1, -1, -1), -1);
        Checks.no(x, "10: the tape has 900, not 901", x.glen(901), 1);
        Checks.no(x, "10: all of it is read", x.glen(900), 9);
        Checks.due("9: 20 behind an empty tape", x.feed(0, 0, 0, 0, 0), 20);
    }

    /** "the highest of each int first" */
    private static void tapeByBytes() {
        ForgetStream x = new ForgetStream();
        // load 7;odds 9;long 3
        x.feed(0x6C6F6164, 0x20373B6F, 0x64647320, 0x393B6C6F, 0x6E672033);
        x.feed(0x3B000000, 0, 0, 0, 0);
        Checks.ok(x, "9: 21 bytes", x.glen(21), 0);
        Checks.ok(x, "9: load 7", x.told(3), 7);
        Checks.ok(x, "9: odds 9", x.told(4), 9);
        Checks.ok(x, "9: long 3", x.told(2), 3);
        // a byte whose highest bit is 1 is a byte, too
        x.feed(0x6C6F6164, 0x20373BFF, 0, 0, 0);
        Checks.no(x, "9: byte 255", x.glen(8), 9);
        Checks.due("9: no token begins so", x.fault(0), 1);
        Checks.due("9: at its place", x.fault(1), 7);
    }

    /** "The first n bytes of the tape (which is empty then) are the GLEN" */
    private static void tapeIsGoneBehindGlen() {
        ForgetStream x = new ForgetStream();
        Checks.feed(x, "long 9;long 9;");
        Checks.ok(x, "10: the first seven bytes", x.glen(7), 0);
        Checks.no(x, "10: those behind are gone, too", x.glen(1), 1);
        Checks.ok(x, "10: none are left", x.glen(0), 0);
        Checks.feed(x, "any;any;");
        Checks.ok(x, "11: the first four bytes", x.days(4), 1);
        Checks.no(x, "11: those behind are gone, too", x.days(1), 1);
        Checks.feed(x, "any;");
        Checks.ok(x, "11: none of them", x.days(0), 0);
        Checks.due("11: the tape is empty", x.feed(0, 0, 0, 0, 0), 20);
        Checks.ok(x, "10: none of them", x.glen(0), 0);
        Checks.due("10: the tape is empty", x.feed(0, 0, 0, 0, 0), 20);
        Checks.no(x, "10: more than the tape has", x.glen(21), 1);
        Checks.due("10: it stays then", x.feed(0, 0, 0, 0, 0), 40);
        Checks.no(x, "11: more than the tape has", x.days(41), 1);
        Checks.due("11: it stays then", x.feed(0, 0, 0, 0, 0), 60);
        Checks.no(x, "10: below 0", x.glen(-1), 1);
        Checks.no(x, "11: below 0", x.days(-1), 1);
        Checks.due("10, 11: it stays then", x.feed(0, 0, 0, 0, 0), 80);
    }

    /** The text ends with the first n bytes, whatever the tape has behind them. */
    private static void firstBytesAlone() {
        ForgetStream x = new ForgetStream();
        Checks.feed(x, "load 40;");
        Checks.no(x, "10: load 40 without ;", x.glen(7), 9);
        Checks.due("12: 2", x.fault(0), 2);
        Checks.due("12: at the text's length", x.fault(1), 7);
        Checks.feed(x, "load 40;");
        Checks.no(x, "10: load 4", x.glen(6), 9);
        Checks.due("12: at the text's length", x.fault(1), 6);
        Checks.feed(x, "odds 1612345");
        Checks.no(x, "10: odds 1", x.glen(6), 9);
        Checks.due("12: a number of one digit", x.fault(0), 2);
        Checks.due("12: at the text's length", x.fault(1), 6);
    }

    /** "Of the latest glen() or days() with STATUS 0 or 9 .. NONE for others, and ahead of any." */
    private static void faultAheadOfAny() {
        ForgetStream x = new ForgetStream();
        for (int what = -1; what <= 2; what++) {
            Checks.due("12: ahead of any", x.fault(what), -1);
        }
        x.glen(1);
        x.days(1);
        Checks.due("12: status 1 does not count", x.fault(0), -1);
        x.days(0);
        Checks.due("12: without one", x.fault(0), 0);
        Checks.due("12: no place", x.fault(1), -1);
        Checks.glen(x, "?");
        Checks.due("12: a fault", x.fault(0), 1);
        Checks.due("12: its place", x.fault(1), 0);
        x.glen(1);
        Checks.due("12: status 1 does not count", x.fault(0), 1);
        Checks.due("12: others", x.fault(2), -1);
        Checks.due("12: others", x.fault(-1), -1);
        Checks.due("12: others", x.fault(Integer.MAX_VALUE), -1);
        Checks.due("12: others", x.fault(Integer.MIN_VALUE), -1);
        Checks.days(x, "any;");
        Checks.due("12: of the latest", x.fault(0), 0);
        Checks.due("12: of the latest", x.fault(1), -1);
    }
}
