import java.util.List;
import java.util.function.Consumer;

/** Days as they are lived, means, marks at their ends: "==== 4.", promises 52 to 56. */
public final class EdgesOfLifeTest {
    /** In hours: 1 it is in 3, 2 turns, 3 in 2, 4 in 1, 5 in 0 (takes a up), 6 turns, 7, 8, 9 in the sea: home. */
    private static final String BACK = "long 4;stream 2;thing a weighs 1 grips 24 minds 1 lies 0;"
            + "thing b weighs 1 grips 24 minds 1;mill u at 1 up;mill w at 1 both;";

    public static void main(String[] args) {
        seeds();
        drawsWrapAround();
        drawsOfOneThing();
        drawsOfEightThings();
        drawsOfCells();
        drawsGoOn();
        bothAreDrawnFirst();
        anyWithoutThings();
        hoursToTheLast();
        hoursMissedAsAWhole();
        throwsMissed();
        fetchesMissed();
        throwsDone();
        testsOfCells();
        testsOfGround();
        testsOfWays();
        testsOfLying();
        testsThatDoNotHold();
        loopOnce();
        loopNinetyNine();
        loopsWithinLoops();
        loopsComeToAgain();
        emptyBodies();
        stopEndsAll();
        daysWithoutSteps();
        threeHundredSteps();
        stepLeft();
        livedByNumbers();
        livedFromNowOn();
        livedOfTheLatest();
        whatItComesToStays();
        againAndAgain();
        meanOfOneAndTwenty();
        meanOfEachSeed();
        meanAhead();
        meanOfNothing();
        meanNearTheLastHour();
        meanLeavesLived();
        marksOneToThree();
        undoToTheLatest();
        undoOfEachCall();
        undoOfDays();
        undoLeaves();
        Checks.end();
    }

    /** Days on a glen by a seed: how many steps, and what lived() tells, as far as it is told here. */
    private static ForgetStream live(String glen, int hours, String days, int steps, int... lived) {
        ForgetStream x = Checks.with(glen);
        for (int left = hours; left > 0; left -= 168) {
            x.hour(Math.min(left, 168));
        }
        Checks.days(x, days);
        Checks.due("11: " + days + ": status", x.status(), 0);
        Checks.ok(x, "52: " + days, x.live(0), steps);
        for (int what = 0; what < lived.length; what++) {
            Checks.ok(x, "53: lived(" + what + ") of " + days, x.lived(what), lived[what]);
        }
        return x;
    }

    /** "LIVED by a seed (0 to 9,999)" */
    private static void seeds() {
        ForgetStream x = Checks.with(BACK);
        Checks.days(x, "any;");
        Checks.ok(x, "52: seed 0", x.live(0), 1);
        Checks.ok(x, "52: seed 9,999", x.live(9999), 1);
        Checks.no(x, "52: seed 10,000", x.live(10000), 1);
        Checks.no(x, "52: seed -1", x.live(-1), 1);
    }

    /** "s, at first the seed, becomes what is left of s times 3,169 and 11,393 by 65,536" */
    private static int next(int s) {
        return (int) ((s * 3169L + 11393L) % 65536L);
    }

    /** "the draw by n is the rest of s by 8, rounded down, by n" */
    private static int draw(int s, int n) {
        return s / 8 % n;
    }

    private static ForgetStream shore(int things, int cells) {
        ForgetStream x = Checks.with("long " + cells + ";");
        for (int i = 0; i < things; i++) {
            x.make(1, 1, 24);
        }
        return x;
    }

    private static void drawn(int things, int cells, int seed) {
        ForgetStream x = shore(things, cells);
        Checks.days(x, "any;");
        x.live(seed);
        int s = next(seed);
        int thing = draw(s, things);
        int cell = draw(next(s), cells);
        String what = "52: seed " + seed + " by " + things + " things, " + cells + " cells";
        Checks.ok(x, what + ": lies", x.told(10), 1 << thing);
        Checks.ok(x, what + ": in", x.cellOf(thing), cell);
    }

    private static void drawsWrapAround() {
        // 17 times 3,169 and 11,393 is 65,266, as much as can be; 18 times is 65,536 and 2,899
        Checks.due("52: 17", next(17), 65266);
        Checks.due("52: 18", next(18), 2899);
        for (int seed : new int[] {0, 1, 16, 17, 18, 19, 37, 38, 5000, 9998, 9999}) {
            drawn(3, 7, seed);
            drawn(8, 16, seed);
        }
        // by hand: 65,266 by 8 is 8,158, by 3 the rest is 1; then 7,731, that by 8 is 966, by 7 nothing is left
        ForgetStream x = shore(3, 7);
        Checks.days(x, "any;");
        x.live(17);
        Checks.ok(x, "52: thing 1", x.told(10), 2);
        Checks.ok(x, "52: cell 0", x.cellOf(1), 0);
    }

    private static void drawsOfOneThing() {
        for (int seed = 0; seed < 20; seed++) {
            drawn(1, 2, seed);
            drawn(1, 16, seed);
        }
    }

    private static void drawsOfEightThings() {
        for (int seed = 0; seed < 20; seed++) {
            drawn(8, 2, seed);
        }
    }

    /** "into a CELL by a draw by how many there are" */
    private static void drawsOfCells() {
        boolean[] seen = new boolean[16];
        for (int seed = 0; seed < 150; seed++) {
            ForgetStream x = shore(1, 16);
            Checks.days(x, "any;");
            x.live(seed);
            seen[Math.max(0, x.cellOf(0))] = true;
        }
        for (int cell = 0; cell < 16; cell++) {
            Checks.due("52: cell " + cell + " is drawn, too", seen[cell], true);
        }
    }

    private static void drawsGoOn() {
        int s = 7;
        int[] cell = {-1, -1, -1, -1, -1, -1, -1, -1};
        int missed = 0;
        for (int i = 0; i < 20; i++) {
            s = next(s);
            int thing = draw(s, 8);
            s = next(s);
            missed += cell[thing] >= 0 ? 1 : 0;
            cell[thing] = cell[thing] >= 0 ? cell[thing] : draw(s, 5);
        }
        ForgetStream x = shore(8, 5);
        Checks.days(x, "loop 20;any;end;");
        x.live(7);
        Checks.ok(x, "53: missed", x.lived(0), missed);
        for (int thing = 0; thing < 8; thing++) {
            Checks.due("52: thing " + thing, x.cellOf(thing), cell[thing]);
        }
        // from one life to the next it begins with the seed again
        ForgetStream y = shore(8, 5);
        Checks.days(y, "any;");
        y.live(7);
        y.fetch(draw(next(7), 8));
        y.live(7);
        Checks.ok(y, "52: the same again", y.told(10), 1 << draw(next(7), 8));
    }

    /** "(both first)": what is missed is drawn all the same. */
    private static void bothAreDrawnFirst() {
        // find a seed by which the first two draws of things are one, and the third is another
        int seed = 0;
        int third = 0;
        for (int i = 0; i < 1000 && seed == 0; i++) {
            int s1 = next(i);
            int s3 = next(next(s1));
            int s5 = next(next(s3));
            if (draw(s1, 2) == draw(s3, 2) && draw(s5, 2) != draw(s1, 2)) {
                seed = i;
                third = s5;
            }
        }
        ForgetStream x = shore(2, 8);
        Checks.days(x, "any;any;any;");
        Checks.ok(x, "52: three steps", x.live(seed), 3);
        Checks.ok(x, "53: the second is missed", x.lived(0), 1);
        Checks.ok(x, "52: the third is by the fifth and sixth draw", x.cellOf(draw(third, 2)), draw(next(third), 8));
    }

    /** "any without THINGS (no draws)" */
    private static void anyWithoutThings() {
        ForgetStream x = live("long 4;", 0, "any;any;hour 1;", 3, 2, 1, 0, 0, 0);
        Checks.ok(x, "13: nothing lies", x.told(10), 0);
    }

    /** "What can't be is MISSED: HOURS beyond 9,999" */
    private static void hoursToTheLast() {
        live("", 9999 - 24, "hour 24;", 1, 0, 24, 0, 0, 0);
        live("", 9999 - 24, "hour 24;hour 1;", 2, 1, 24, 0, 0, 0);
        live("", 9998, "hour 1;", 1, 0, 1, 0, 0, 0);
        live("", 9999, "hour 1;", 1, 1, 0, 0, 0, 0);
        ForgetStream x = live("", 9999 - 3, "loop 4;hour 1;end;", 5, 1, 3, 0, 0, 0);
        Checks.ok(x, "13: 9,999", x.told(5), 9999);
    }

    /** "(as a whole)" */
    private static void hoursMissedAsAWhole() {
        ForgetStream x = live("", 9999 - 23, "hour 24;", 1, 1, 0, 0, 0, 0);
        Checks.ok(x, "13: not one of 24", x.told(5), 9999 - 23);
        ForgetStream y = live("", 9998, "hour 2;hour 1;hour 1;", 3, 2, 1, 0, 0, 0);
        Checks.ok(y, "13: 9,999", y.told(5), 9999);
    }

    /** "a throw (by any, too) of what LIES, is CARRIED" */
    private static void throwsMissed() {
        ForgetStream x = live(BACK, 0, "throw a 3;", 1, 1, 0, 0, 0, 0);
        Checks.ok(x, "15: it lies where it lay", x.cellOf(0), 0);
        live(BACK, 5, "throw a 3;", 1, 1, 0, 0, 0, 0);
        String one = "long 4;stream 2;thing a weighs 1 grips 24 minds 1 lies 0;";
        ForgetStream y = live(one, 1, "any;", 1, 1, 0, 0, 0, 0);
        Checks.ok(y, "15: it lies where it lay", y.cellOf(0), 0);
        Checks.ok(y, "14: for an hour", y.thing(0, 4), 1);
        ForgetStream z = live(one, 5, "any;", 1, 1, 0, 0, 0, 0);
        Checks.ok(z, "13: it is carried still", z.told(11), 1);
        live(one, 9, "any;", 1, 0, 0, 0, 0, 0);
    }

    /** "a fetch of what does not LIE" */
    private static void fetchesMissed() {
        live(BACK, 0, "fetch b;", 1, 1, 0, 0, 0, 0);
        ForgetStream x = live(BACK, 5, "fetch a;", 1, 1, 0, 0, 0, 0);
        Checks.ok(x, "13: it is carried still", x.told(11), 1);
        ForgetStream y = live(BACK, 9, "fetch a;", 1, 1, 0, 0, 0, 0);
        Checks.ok(y, "13: it is home still", y.told(12), 1);
        ForgetStream z = live(BACK, 0, "fetch a;fetch a;", 2, 1, 0, 0, 0, 0);
        Checks.ok(z, "13: both ashore", z.told(9), 3);
    }

    private static void throwsDone() {
        ForgetStream x = live(BACK, 9, "throw a 0;throw b 3;", 2, 0, 0, 0, 0, 0);
        Checks.ok(x, "15: from home", x.cellOf(0), 0);
        Checks.ok(x, "15: from ashore", x.cellOf(1), 3);
        Checks.ok(x, "14: for 0 hours", x.thing(0, 4), 0);
    }

    private static void test(String glen, int hours, String test, boolean holds) {
        live(glen, hours, "when " + test + ";any;end;", holds ? 2 : 1);
    }

    /** "at: in which CELL the STREAM is (0 to 15)" */
    private static void testsOfCells() {
        String sea = "long 16;stream 15;";
        test(sea, 0, "at=15", true);
        test(sea, 0, "at>14", true);
        test(sea, 0, "at>15", false);
        test(sea, 0, "at<15", false);
        test(sea, 0, "at=14", false);
        String spring = "long 16;";
        test(spring, 0, "at=0", true);
        test(spring, 0, "at<1", true);
        test(spring, 0, "at<0", false);
        test(spring, 0, "at>0", false);
        test(spring, 0, "at=1", false);
        test(spring, 7, "at<8", true);
        test(spring, 7, "at<7", false);
        test(spring, 7, "at>6", true);
        test(spring, 7, "at>7", false);
        test(spring, 7, "at=7", true);
    }

    /** "ground: 0 to 9,999" */
    private static void testsOfGround() {
        test(BACK, 3, "ground u=0", true);
        test(BACK, 3, "ground u<1", true);
        test(BACK, 3, "ground u<0", false);
        test(BACK, 3, "ground u>0", false);
        test(BACK, 4, "ground u=1", true);
        test(BACK, 4, "ground u>0", true);
        test(BACK, 4, "ground u>1", false);
        test(BACK, 4, "ground u<9999", true);
        test(BACK, 4, "ground u>9999", false);
        // each mill by its own name: u once, w twice
        test(BACK, 9, "ground u=1", true);
        test(BACK, 9, "ground w=2", true);
        test(BACK, 9, "ground w=1", false);
    }

    /** "runs KIND (down, up)" */
    private static void testsOfWays() {
        test(BACK, 1, "runs down", true);
        test(BACK, 1, "runs up", false);
        test(BACK, 2, "runs up", true);
        test(BACK, 2, "runs down", false);
    }

    private static void testsOfLying() {
        test(BACK, 0, "lies a", true);
        test(BACK, 0, "lies b", false);
        test(BACK, 4, "lies a", true);
        test(BACK, 5, "lies a", false);
        test(BACK, 9, "lies a", false);
    }

    /** What is in a when that does not hold is not come to, with all that is within it. */
    private static void testsThatDoNotHold() {
        live(BACK, 0, "when at=9;loop 99;when at=2;hour 24;end;end;stop;end;hour 1;", 2, 0, 1, 0, 0, 0);
        live(BACK, 0, "when at=2;when at=9;stop;end;hour 1;end;hour 1;", 4, 0, 2, 1, 0, 0);
        // it is looked at as it is come to: the hour within it changes nothing
        live(BACK, 0, "when at=2;hour 1;hour 1;end;hour 1;", 4, 0, 3, 1, 0, 0);
        live(BACK, 0, "when lies a;fetch a;throw a 0;end;", 3, 0, 0, 0, 0, 0);
    }

    /** "loop n (1 to 99): as often" */
    private static void loopOnce() {
        live("", 0, "loop 1;hour 1;end;", 2, 0, 1, 0, 0, 0);
        live("", 0, "loop 2;hour 1;end;", 3, 0, 2, 0, 0, 0);
    }

    private static void loopNinetyNine() {
        live("", 0, "loop 99;hour 1;end;", 100, 0, 99, 0, 0, 0);
        live("", 0, "loop 98;hour 1;end;hour 24;", 100, 0, 98 + 24, 0, 0, 0);
    }

    /** "loop count as one each time they are come to from ahead; end does not" */
    private static void loopsWithinLoops() {
        live("", 0, "loop 3;loop 4;hour 1;end;end;", 1 + 3 * (1 + 4), 0, 12, 0, 0, 0);
        live("", 0, "loop 2;loop 3;loop 4;hour 1;end;end;end;", 1 + 2 * (1 + 3 * (1 + 4)), 0, 24, 0, 0, 0);
        live("", 0, "loop 5;when at=9;hour 1;end;end;", 1 + 5, 0, 0, 0, 0, 0);
        live("", 0, "loop 5;when at<8;hour 1;end;end;", 1 + 5 * 2, 0, 5, 0, 0, 0);
    }

    private static void loopsComeToAgain() {
        // the inner one counts anew each time
        live("", 0, "loop 2;hour 1;loop 2;hour 2;end;hour 3;end;", 1 + 2 * (1 + 1 + 2 + 1), 0, 16, 0, 0, 0);
    }

    private static void emptyBodies() {
        live("", 0, "loop 99;end;", 1, 0, 0, 0, 0, 0);
        live("", 0, "when at=0;end;", 1, 0, 0, 0, 0, 0);
        live("", 0, "when at=1;end;", 1, 0, 0, 0, 0, 0);
        live("", 0, "loop 9;loop 9;end;end;", 10, 0, 0, 0, 0, 0);
        live("", 0, "loop 9;when at=0;end;end;", 10, 0, 0, 0, 0, 0);
        // as many words as 300 bytes have room for
        ForgetStream x = live("", 0, "loop2;loop2;end;end;".repeat(15), 45, 0, 0, 0, 0, 0);
        Checks.ok(x, "54: of as many", x.mean(0, 20));
        Checks.fraction(x, "54: nothing is home", 0, 1);
    }

    private static void stopEndsAll() {
        live("", 0, "stop;", 1, 0, 0, 0, 0, 0);
        live("", 0, "stop;hour 1;", 1, 0, 0, 0, 0, 0);
        live("", 0, "hour 1;stop;stop;", 2, 0, 1, 0, 0, 0);
        live("", 0, "loop 9;loop 9;when at<9;hour 1;stop;end;end;end;hour 1;", 5, 0, 1, 0, 0, 0);
    }

    private static void daysWithoutSteps() {
        live("", 0, "", 0, 0, 0, 0, 0, 0);
        live("", 0, "  ", 0, 0, 0, 0, 0, 0);
        ForgetStream x = new ForgetStream();
        Checks.no(x, "52: none at first", x.live(0), 6);
    }

    /** 1 + 99 * 3 = 298 steps. */
    private static final String MOST = "loop 99;any;any;any;end;";

    /** "At most 300 STEPS" */
    private static void threeHundredSteps() {
        live("", 0, MOST + "any;", 299, 298, 0, 0, 0, 0);
        live("", 0, MOST + "any;any;", 300, 299, 0, 0, 0, 0);
        live("", 0, MOST + "any;hour 1;", 300, 298, 1, 0, 0, 0);
        live("", 0, MOST + "any;any;hour 1;", 300, 299, 0, 0, 0, 1);
        live("", 0, "loop 99;hour 1;hour 1;hour 1;hour 1;end;", 300, 0, 299, 0, 0, 1);
        live("", 0, "loop 99;loop 99;loop 99;end;end;end;", 300, 0, 0, 0, 0, 1);
    }

    /** "1 if a STEP was left to be done (by the 300 alone, not by stop), else 0" */
    private static void stepLeft() {
        live("", 0, MOST + "any;stop;", 300, 298, 0, 0, 0, 0);
        live("", 0, MOST + "any;stop;any;", 300, 298, 0, 0, 0, 0);
        live("", 0, MOST + "stop;any;any;any;", 299, 297, 0, 0, 0, 0);
        live("", 0, MOST + "any;any;stop;", 300, 299, 0, 0, 0, 1);
        // ends alone are left: no step
        live("", 0, MOST + "loop 1;loop 1;end;end;", 300, 297, 0, 0, 0, 0);
        live("", 0, MOST + "any;loop 9;end;", 300, 298, 0, 0, 0, 0);
        live("", 0, MOST + "loop 1;any;end;", 300, 298, 0, 0, 0, 0);
        live("", 0, MOST + "any;when at=1;any;end;", 300, 298, 0, 0, 0, 0);
        // the loop would go round once more
        live("", 0, MOST + "loop 2;any;end;", 300, 298, 0, 0, 0, 1);
        live("", 0, MOST + "any;loop 1;any;end;", 300, 298, 0, 0, 0, 1);
        live("", 0, MOST + "any;when at=0;any;end;", 300, 298, 0, 0, 0, 1);
        live("", 0, MOST + "any;when at=1;any;end;any;", 300, 298, 0, 0, 0, 1);
    }

    /** "what 0: how many were MISSED, 1: HOURS, 2: TURNS, 3: how often a THING came HOME" */
    private static void livedByNumbers() {
        live(BACK, 0, "hour 9;fetch b;throw a 1;throw a 2;", 4, 2, 9, 2, 1, 0);
        ForgetStream x = live(BACK, 0, "hour 9;throw a 3;throw b 3;hour 2;", 4, 0, 11, 2, 3, 0);
        Checks.ok(x, "14: a twice", x.thing(0, 5), 2);
        Checks.ok(x, "14: b once", x.thing(1, 5), 1);
    }

    /** What was ahead of it does not count. */
    private static void livedFromNowOn() {
        live(BACK, 9, "hour 1;", 1, 0, 1, 0, 0, 0);
        live(BACK, 5, "hour 4;", 1, 0, 4, 1, 1, 0);
    }

    /** "Of live() latest with STATUS 0 (whatever came behind it)" */
    private static void livedOfTheLatest() {
        ForgetStream x = live(BACK, 0, "hour 9;fetch b;", 2, 1, 9, 2, 1, 0);
        x.live(10000);
        x.live(-1);
        x.hour(3);
        x.mark();
        Checks.days(x, "hour 1;");
        x.glen(0);
        x.live(0);
        x.undo();
        int[] due = {1, 9, 2, 1, 0};
        for (int what = 0; what < due.length; what++) {
            Checks.ok(x, "53: lived(" + what + ")", x.lived(what), due[what]);
        }
        x.live(0);
        Checks.ok(x, "53: the next", x.lived(1), 9);
        Checks.ok(x, "53: the next", x.lived(2), 0);
        Checks.no(x, "53: what 5", x.lived(5), 1);
        Checks.no(x, "53: what -1", x.lived(-1), 1);
    }

    /** "what it comes to stays" */
    private static void whatItComesToStays() {
        ForgetStream x = live(BACK, 0, "hour 4;throw b 2;", 2);
        ForgetStream y = Checks.with(BACK);
        y.hour(4);
        y.toss(1, 2);
        for (int what = 0; what < 15; what++) {
            Checks.ok(x, "52: told(" + what + ")", x.told(what), y.told(what));
        }
        Checks.ok(x, "52: ground", x.mill(0, 2), 1);
    }

    private static void againAndAgain() {
        ForgetStream x = live(BACK, 0, "hour 4;", 1, 0, 4, 1, 0, 0);
        Checks.ok(x, "52: from how all is now", x.live(0), 1);
        Checks.ok(x, "13: hour 8", x.told(5), 8);
        Checks.ok(x, "53: one turn more", x.lived(2), 1);
        // the second by itself, whatever the first left
        ForgetStream y = live("", 0, MOST + "any;any;any;", 300, 299, 0, 0, 0, 1);
        Checks.days(y, "any;");
        Checks.ok(y, "52: one step", y.live(0), 1);
        Checks.ok(y, "53: one missed", y.lived(0), 1);
        Checks.ok(y, "53: none is left", y.lived(4), 0);
        ForgetStream z = live("", 0, MOST + "any;any;any;", 300, 299);
        Checks.ok(z, "52: the same again", z.live(0), 300);
        Checks.ok(z, "53: as many missed", z.lived(0), 299);
    }

    /** "by so many seeds (1 to 20) from one on" */
    private static void meanOfOneAndTwenty() {
        ForgetStream x = Checks.with(BACK);
        Checks.days(x, "hour 9;");
        Checks.ok(x, "54: one", x.mean(0, 1));
        Checks.fraction(x, "54: one", 1, 1);
        Checks.ok(x, "54: twenty", x.mean(0, 20));
        Checks.fraction(x, "54: twenty", 1, 1);
        Checks.ok(x, "54: the last is 9,999", x.mean(9999, 1));
        Checks.ok(x, "54: the last is 9,999", x.mean(9980, 20));
        Checks.no(x, "54: the last is 10,000", x.mean(9981, 20), 1);
        Checks.no(x, "54: none", x.mean(0, 0), 1);
        Checks.no(x, "54: twenty-one", x.mean(0, 21), 1);
    }

    /** b is too heavy to be taken up, a is home: which of them is thrown is drawn. */
    private static final String ONE_OF_TWO = "long 4;stream 3;load 1;thing a weighs 1 grips 24 minds 1;thing b weighs 9 grips 24 minds 1;";

    private static void meanOfEachSeed() {
        for (int seed : new int[] {0, 1, 50, 9980}) {
            for (int many : new int[] {1, 2, 3, 7, 19, 20}) {
                mean("any;hour 24;", seed, many);
                mean("any;hour 24;any;hour 24;", seed, many);
                mean("hour 1;loop 2;any;end;hour 24;", seed, many);
            }
        }
    }

    private static void mean(String days, int seed, int many) {
        int homes = 0;
        for (int i = 0; i < many; i++) {
            ForgetStream x = Checks.with(ONE_OF_TWO);
            Checks.days(x, days);
            x.live(seed + i);
            homes += x.thing(0, 5) + x.thing(1, 5);
        }
        ForgetStream x = Checks.with(ONE_OF_TWO);
        Checks.days(x, days);
        String what = "54: mean(" + seed + ", " + many + ") of " + days;
        Checks.ok(x, what, x.mean(seed, many));
        Checks.due(what, x.top() * many, homes * x.bottom());
        Checks.due(what + ": above 0", x.bottom() > 0, true);
        Checks.due(what + ": no common divisor", gcd(x.top(), x.bottom()), 1);
    }

    private static long gcd(long a, long b) {
        return b == 0 ? a : gcd(b, a % b);
    }

    /** "how often all THINGS together came HOME (ahead, too)" */
    private static void meanAhead() {
        ForgetStream x = Checks.with(BACK);
        x.hour(9);
        Checks.days(x, "throw b 3;hour 2;");
        Checks.ok(x, "54: a ahead, b behind the days", x.mean(0, 3));
        Checks.fraction(x, "54: two", 2, 1);
        Checks.days(x, "hour 1;");
        Checks.ok(x, "54: a ahead alone", x.mean(0, 3));
        Checks.fraction(x, "54: one", 1, 1);
        Checks.days(x, "");
        Checks.ok(x, "54: days without steps", x.mean(0, 3));
        Checks.fraction(x, "54: one", 1, 1);
    }

    private static void meanOfNothing() {
        ForgetStream x = new ForgetStream();
        Checks.days(x, "any;hour 24;");
        x.rain(1, 1);
        Checks.ok(x, "54: no things", x.mean(0, 20));
        Checks.fraction(x, "54: 0 is 0 by 1", 0, 1);
    }

    /** The hours of days are MISSED beyond 9,999, in a mean, too. */
    private static void meanNearTheLastHour() {
        ForgetStream x = Checks.with("long 2;stream 1;thing a weighs 1 grips 24 minds 1;");
        for (int i = 0; i < 59; i++) {
            x.hour(168);
        }
        x.hour(9999 - 59 * 168 - 2);
        Checks.days(x, "throw a 1;hour 2;");
        x.mean(0, 2);
        Checks.fraction(x, "54: home in the last hour", 1, 1);
        Checks.days(x, "throw a 1;hour 3;");
        x.mean(0, 2);
        Checks.fraction(x, "54: three hours are missed", 0, 1);
        Checks.ok(x, "13: none went by", x.told(5), 9997);
    }

    /** "all stays as it is" */
    private static void meanLeavesLived() {
        ForgetStream x = Checks.with(BACK);
        Checks.days(x, "any;hour 9;");
        x.mean(0, 20);
        Checks.no(x, "53: none was lived", x.lived(0), 6);
        Checks.ok(x, "13: hour 0", x.told(5), 0);
        Checks.ok(x, "13: a lies", x.told(10), 1);
        Checks.ok(x, "16: nothing ground", x.mill(0, 2), 0);
        x.live(0);
        Checks.ok(x, "53: 9", x.lived(1), 9);
        Checks.days(x, "hour 24;");
        x.mean(0, 20);
        Checks.ok(x, "53: 9 still", x.lived(1), 9);
    }

    /** "MARKS, at most 3" */
    private static void marksOneToThree() {
        ForgetStream x = new ForgetStream();
        Checks.no(x, "56: none at first", x.undo(), 6);
        for (int i = 1; i <= 3; i++) {
            Checks.ok(x, "55: mark " + i, x.mark(), i);
        }
        Checks.no(x, "55: a fourth", x.mark(), 4);
        Checks.ok(x, "56: two left", x.undo(), 2);
        Checks.ok(x, "55: three again", x.mark(), 3);
        for (int i = 2; i >= 0; i--) {
            Checks.ok(x, "56: " + i + " left", x.undo(), i);
        }
        Checks.no(x, "56: none left", x.undo(), 6);
        Checks.ok(x, "55: one again", x.mark(), 1);
    }

    /** "all is taken back to the latest MARK, which is gone then" */
    private static void undoToTheLatest() {
        ForgetStream x = Checks.with(BACK);
        x.mark();
        x.hour(1);
        x.mark();
        x.hour(2);
        x.mark();
        x.hour(4);
        // a fourth is refused: the third stays as it was
        x.mark();
        x.hour(8);
        int[] due = {3, 1, 0};
        for (int i = 0; i < 3; i++) {
            Checks.ok(x, "56: undone", x.undo(), 2 - i);
            Checks.ok(x, "13: the hour", x.told(5), due[i]);
        }
        Checks.no(x, "56: none left", x.undo(), 6);
        Checks.ok(x, "13: the hour stays", x.told(5), 0);
    }

    /** "the GLEN with all that became of it": whatever changes it is taken back. */
    private static void undoOfEachCall() {
        List<Consumer<ForgetStream>> calls = List.of(x -> x.hour(9), x -> x.toss(House.ASHORE, 0), x -> x.fetch(House.LIES),
                x -> x.grip(House.LIES, 1), x -> x.mind(House.LIES, 1), x -> x.make(9, 9, 9), x -> x.rule(3, 40),
                x -> x.rule(4, 0), x -> x.glen(0), x -> x.days(0), x -> x.live(3));
        String due = House.lookAtGlens(House.full());
        for (int i = 0; i < calls.size(); i++) {
            ForgetStream x = House.full();
            Checks.ok(x, "55: three", x.mark(), 3);
            calls.get(i).accept(x);
            Checks.due("55: done, call " + i, x.status(), 0);
            Checks.ok(x, "56: undone", x.undo(), 2);
            Checks.same("56: call " + i + " is taken back", House.lookAtGlens(x), due);
        }
    }

    /** "the DAYS are kept as they are" */
    private static void undoOfDays() {
        ForgetStream x = Checks.with(BACK);
        x.mark();
        Checks.days(x, "hour 1;hour 1;");
        x.mark();
        Checks.days(x, "hour 1;");
        Checks.ok(x, "52: one", x.live(0), 1);
        x.undo();
        Checks.ok(x, "52: two", x.live(0), 2);
        x.undo();
        Checks.no(x, "52: no days", x.live(0), 6);
        // days of things and mills that a glen has taken away
        Checks.days(x, "throw b 3;when ground w=0;fetch b;end;");
        x.mark();
        x.glen(0);
        Checks.no(x, "52: no days", x.live(0), 6);
        x.undo();
        Checks.ok(x, "52: three", x.live(0), 3);
        Checks.ok(x, "53: none was missed", x.lived(0), 0);
        // the mill that was built is taken back, its place is free again
        x.mark();
        Checks.ok(x, "25: a third", x.build(0, 0), 2);
        x.undo();
        Checks.ok(x, "13: two", x.told(1), 2);
        Checks.ok(x, "25: a third", x.build(0, 0), 2);
    }

    /** Trays, the tape, the fraction, faults, what was lived are no GLEN and no DAYS. */
    private static void undoLeaves() {
        ForgetStream x = Checks.with(BACK);
        x.mark();
        x.tray(0, 0, 1);
        x.write(0, 0, 5);
        x.rain(1, 1);
        Checks.days(x, "hour 1;");
        x.live(0);
        Checks.days(x, "up");
        x.feed(0, 0, 0, 0, 0);
        Checks.ok(x, "56: undone", x.undo(), 0);
        Checks.ok(x, "7: the tray", x.read(0, 0), 5);
        Checks.fraction(x, "3, 4: the fraction", 1, 4);
        Checks.due("12: the fault", x.fault(0), 2);
        Checks.ok(x, "53: what was lived", x.lived(1), 1);
        Checks.due("9: the tape", x.feed(0, 0, 0, 0, 0), 40);
    }
}
