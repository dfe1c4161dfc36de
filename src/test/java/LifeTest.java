/** Promises 52 to 56: days, draws, marks. */
public final class LifeTest {
    private static final String GLEN = "long 4;stream 2;thing a weighs 1 grips 24 minds 1 lies 0;"
            + "thing b weighs 1 grips 24 minds 1;mill u at 1 up;";

    public static void main(String[] args) {
        lives();
        steps();
        tests();
        loops();
        threeHundred();
        draws();
        lastHours();
        means();
        marks();
        marksOfTexts();
        Checks.end();
    }

    private static void live(ForgetStream x, String days, int seed, int steps, int... lived) {
        Checks.days(x, days);
        Checks.due("11: " + days + ": status", x.status(), 0);
        Checks.ok(x, "52: " + days, x.live(seed), steps);
        for (int i = 0; i < lived.length; i++) {
            Checks.ok(x, "53: " + days + ", what " + i, x.lived(i), lived[i]);
        }
    }

    private static void lives() {
        ForgetStream x = Checks.with(GLEN);
        Checks.no(x, "52: no days", x.live(1), 6);
        Checks.no(x, "52: seed -1", x.live(-1), 1);
        Checks.no(x, "52: seed 10,000", x.live(10000), 1);
        Checks.no(x, "53: none lived", x.lived(0), 6);
        Checks.no(x, "53: what 5", x.lived(5), 1);
        Checks.no(x, "53: what -1", x.lived(-1), 1);
        // a is home in hour 9, behind two turns
        live(x, "hour 9;", 9999, 1, 0, 9, 2, 1, 0);
        Checks.ok(x, "52: what it comes to stays", x.told(5), 9);
        Checks.ok(x, "52: a is home", x.told(12), 1);
        Checks.ok(x, "52: ground", x.mill(0, 2), 1);
        // throw (may be), throw (it lies), fetch, fetch (ashore)
        live(x, "throw a 3;throw a 2;fetch a;fetch a;throw b 3;hour 2;", 0, 6, 2, 2, 0, 1, 0);
        Checks.no(x, "52: seed 10,000", x.live(10000), 1);
        Checks.ok(x, "53: of the latest with status 0", x.lived(0), 2);
        Checks.ok(x, "10: another glen", Checks.glen(x, GLEN), 2);
        Checks.no(x, "52: without days", x.live(0), 6);
        Checks.ok(x, "53: whatever came behind it", x.lived(1), 2);
        // carried things can be neither thrown nor fetched
        live(x, "hour 6;throw a 1;fetch a;", 0, 3, 2, 6, 2, 0, 0);
    }

    private static void steps() {
        ForgetStream x = Checks.with(GLEN);
        live(x, "stop;hour 1;", 0, 1, 0, 0, 0, 0, 0);
        live(x, "loop 5;hour 1;when at=3;stop;end;end;hour 24;", 0, 4, 0, 1, 0, 0, 0);
        live(x, "when at=0;hour 24;hour 24;end;hour 1;", 0, 2, 0, 1, 1, 0, 0);
        live(x, "", 0, 0, 0, 0, 0, 0, 0);
        ForgetStream y = new ForgetStream();
        live(y, "any;", 5, 1, 1, 0, 0, 0, 0);
    }

    private static void tests() {
        ForgetStream x = Checks.with(GLEN);
        x.hour(5);
        // in cell 0, a is carried, u has ground once, it runs up
        String[] holds = {"at=0", "at<1", "runs up", "ground u=1", "ground u>0", "ground u<2"};
        String[] not = {"at=1", "at<0", "at>0", "runs down", "ground u=0", "ground u>1", "ground u<1", "lies a", "lies b"};
        for (String test : holds) {
            live(x, "when " + test + ";any;any;end;", 0, 3);
            x.fetch(0);
            x.fetch(1);
        }
        for (String test : not) {
            live(x, "when " + test + ";any;any;end;", 0, 1);
        }
        live(x, "throw b 1;when lies b;fetch b;end;", 0, 3);
        live(x, "hour 24;when at>2;when runs down;hour 1;end;end;", 0, 4);
        live(x, "throw b 1;when lies b;end;fetch b;", 0, 3);
    }

    private static void loops() {
        ForgetStream x = Checks.with(GLEN);
        live(x, "loop 3;hour 1;end;", 0, 4, 0, 3, 1, 0, 0);
        live(x, "loop 2;loop 3;hour 2;end;hour 1;end;", 0, 1 + 2 * (1 + 3 + 1), 0, 14, 1, 1, 0);
        live(x, "loop 99;end;hour 1;", 0, 2, 0, 1, 0, 0, 0);
        live(x, "loop 2;loop 2;loop 2;any;end;end;end;", 0, 1 + 2 * (1 + 2 * (1 + 2)));
        live(x, "loop 1;hour 1;end;", 0, 2, 0, 1);
        live(x, "loop 2;when at=15;hour 9;end;end;", 0, 3, 0, 0);
    }

    private static void threeHundred() {
        ForgetStream x = new ForgetStream();
        // 1 + 99 * 3 = 298
        String most = "loop 99;any;any;any;end;";
        live(x, most + "any;any;", 0, 300, 299, 0, 0, 0, 0);
        live(x, most + "any;any;any;", 0, 300, 299, 0, 0, 0, 1);
        live(x, most + "any;any;stop;", 0, 300, 299, 0, 0, 0, 1);
        live(x, most + "any;stop;any;", 0, 300, 298, 0, 0, 0, 0);
        live(x, most + "any;loop 9;end;", 0, 300, 298, 0, 0, 0, 0);
        live(x, most + "any;loop 9;any;end;", 0, 300, 298, 0, 0, 0, 1);
        live(x, most + "loop 2;any;end;", 0, 300, 298, 0, 0, 0, 1);
        live(x, most + "any;when at=9;any;end;", 0, 300, 298, 0, 0, 0, 0);
        live(x, most + "any;when at=0;any;end;", 0, 300, 298, 0, 0, 0, 1);
        live(x, "loop 99;loop 99;loop 99;end;end;end;", 0, 300, 0, 0, 0, 0, 1);
        live(x, "loop 99;loop 99;hour 24;end;end;", 0, 300, 0, 296 * 24, 0, 0, 1);
    }

    private static void draws() {
        ForgetStream x = new ForgetStream();
        for (int i = 0; i < 3; i++) {
            x.make(1, 24, 24);
        }
        // 11393 / 8 = 1424, by 3: 2; then 5474 / 8 = 684, by 8: 4
        live(x, "any;", 0, 1, 0);
        Checks.ok(x, "52: thing 2", x.told(10), 4);
        Checks.ok(x, "52: cell 4", x.cellOf(2), 4);
        // the same draws: it lies already
        live(x, "any;", 0, 1, 1);
        Checks.ok(x, "52: thing 2 alone", x.told(10), 4);
        // s goes on from draw to draw: 57571 / 8 = 7196, by 3: 2 (missed, both drawn), and so on
        ForgetStream y = new ForgetStream();
        for (int i = 0; i < 3; i++) {
            y.make(1, 24, 24);
        }
        int s = 9999;
        Checks.days(y, "loop 9;any;end;");
        y.live(9999);
        int[] cell = {-1, -1, -1};
        int missed = 0;
        for (int i = 0; i < 9; i++) {
            s = (s * 3169 + 11393) % 65536;
            int thing = s / 8 % 3;
            s = (s * 3169 + 11393) % 65536;
            missed += cell[thing] >= 0 ? 1 : 0;
            cell[thing] = cell[thing] >= 0 ? cell[thing] : s / 8 % 8;
        }
        for (int i = 0; i < 3; i++) {
            Checks.due("52: cellOf(" + i + ")", y.cellOf(i), cell[i]);
        }
        Checks.ok(y, "53: missed", y.lived(0), missed);
    }

    private static void lastHours() {
        ForgetStream x = Checks.with(GLEN);
        for (int i = 0; i < 59; i++) {
            x.hour(168);
        }
        x.hour(80);
        // 9,992: 24 are missed as a whole, 7 are not, 1 is missed then
        live(x, "hour 24;hour 7;hour 1;", 0, 3, 2, 7, 0, 0, 0);
        Checks.ok(x, "13: the last hour", x.told(5), 9999);
    }

    private static void means() {
        ForgetStream x = Checks.with(GLEN);
        Checks.no(x, "54: no days", x.mean(0, 1), 6);
        Checks.no(x, "54: no days, many 0", x.mean(0, 0), 1);
        Checks.no(x, "54: many 21", x.mean(0, 21), 1);
        Checks.no(x, "54: seed -1", x.mean(-1, 1), 1);
        Checks.no(x, "54: seed 10,000", x.mean(10000, 1), 1);
        Checks.no(x, "54: the last is 10,000", x.mean(9990, 11), 1);
        Checks.days(x, "hour 9;");
        Checks.ok(x, "54: once each", x.mean(9990, 10));
        Checks.fraction(x, "54: once each", 1, 1);
        Checks.ok(x, "54: all stays as it is", x.told(5), 0);
        Checks.no(x, "54: none was lived", x.lived(0), 6);
        x.live(0);
        Checks.ok(x, "54: ahead, too", x.mean(3, 4));
        Checks.fraction(x, "54: ahead, too", 1, 1);
        Checks.days(x, "throw a 3;hour 2;");
        Checks.ok(x, "54: ahead and now", x.mean(0, 20));
        Checks.fraction(x, "54: ahead and now", 2, 1);
        // which thing is thrown is drawn: b is too heavy to be taken up
        ForgetStream y = Checks.with("long 4;stream 3;load 1;thing a weighs 1 grips 24 minds 1;thing b weighs 9 grips 24 minds 1;");
        Checks.days(y, "any;hour 24;");
        int homes = 0;
        for (int seed = 100; seed < 107; seed++) {
            int s = (seed * 3169 + 11393) % 65536;
            homes += s / 8 % 2 == 0 ? 1 : 0;
        }
        Checks.ok(y, "54: seven seeds", y.mean(100, 7));
        Checks.fraction(y, "54: seven seeds", homes, 7);
        Checks.ok(y, "54: nothing is thrown", y.told(9), 3);
        Checks.no(y, "54: wrong", y.mean(0, 21), 1);
        Checks.fraction(y, "54: it stays", homes, 7);
        y.rule(3, 9);
        Checks.ok(y, "54: twenty seeds", y.mean(0, 20));
        Checks.fraction(y, "54: all home by any seed", 1, 1);
    }

    private static void marks() {
        ForgetStream x = Checks.with(GLEN);
        Checks.no(x, "56: none", x.undo(), 6);
        Checks.ok(x, "55: one", x.mark(), 1);
        x.hour(9);
        Checks.ok(x, "55: two", x.mark(), 2);
        x.toss(0, 1);
        x.rule(3, 1);
        x.rule(4, 1);
        x.grip(0, 1);
        x.mind(0, 9);
        x.make(1, 1, 1);
        x.build(0, 0);
        Checks.ok(x, "55: three", x.mark(), 3);
        Checks.no(x, "55: a fourth", x.mark(), 4);
        x.hour(5);
        x.tray(0, 0, 1);
        x.rain(1, 1);
        x.feed(0, 0, 0, 0, 0);
        Checks.ok(x, "56: two left", x.undo(), 2);
        Checks.ok(x, "56: the hour", x.told(5), 9);
        Checks.ok(x, "56: things", x.told(0), 3);
        Checks.ok(x, "56: lies still", x.told(10), 1);
        Checks.ok(x, "56: trays are not taken back", x.read(0, 0), 0);
        Checks.fraction(x, "56: nor fractions", 1, 16);
        Checks.due("56: nor the tape", x.feed(0, 0, 0, 0, 0), 40);
        Checks.ok(x, "56: one left", x.undo(), 1);
        int[] told = {2, 1, 4, 10, 4, 9, 3, 1, 2, 2, 0, 0, 1, 0, 0};
        for (int i = 0; i < told.length; i++) {
            Checks.ok(x, "56: told(" + i + ")", x.told(i), told[i]);
        }
        Checks.ok(x, "56: grip", x.thing(0, 1), 24);
        Checks.ok(x, "56: mind", x.thing(0, 2), 1);
        Checks.ok(x, "56: homes", x.thing(0, 5), 1);
        Checks.ok(x, "56: ground", x.mill(0, 2), 1);
        Checks.ok(x, "55: a mark in place of that which is gone", x.mark(), 2);
        Checks.ok(x, "56: none of it changed", x.undo(), 1);
        Checks.ok(x, "56: to the first", x.undo(), 0);
        Checks.ok(x, "56: hour 0", x.told(5), 0);
        Checks.ok(x, "56: lies", x.cellOf(0), 0);
        Checks.ok(x, "56: not ground", x.mill(0, 2), 0);
        Checks.no(x, "56: none left", x.undo(), 6);
    }

    private static void marksOfTexts() {
        ForgetStream x = Checks.with(GLEN);
        Checks.days(x, "hour 1;hour 1;");
        x.mark();
        Checks.days(x, "hour 3;");
        x.live(0);
        x.mark();
        Checks.glen(x, "long 9;thing q weighs 1 grips 1 minds 1;");
        Checks.ok(x, "55: marks outlast a glen", x.mark(), 3);
        x.undo();
        Checks.ok(x, "56: the new glen", x.told(2), 9);
        Checks.no(x, "56: without days", x.live(0), 6);
        Checks.days(x, "bad");
        x.undo();
        Checks.due("56: faults are not taken back", x.fault(0), 2);
        Checks.ok(x, "56: the old glen", x.told(2), 4);
        Checks.ok(x, "56: its hour", x.told(5), 3);
        Checks.ok(x, "56: its days", x.live(0), 1);
        Checks.ok(x, "56: its names", Checks.days(x, "throw b 1;when ground u=0;end;"), 2);
        x.undo();
        Checks.ok(x, "56: the days ahead", x.live(0), 2);
        Checks.ok(x, "56: the hour ahead", x.told(5), 2);
        x.mark();
        Checks.days(x, "throw b 1;");
        x.live(0);
        x.undo();
        Checks.ok(x, "53: what was lived is not taken back", x.lived(1), 0);
    }
}
