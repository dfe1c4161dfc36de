/**
 * What will be, what to throw, what was seen, boats, at the ends of how far is looked ahead: "==== 3.", promises
 * 27 to 42, 45, 46. What is asked for ahead is gone through hour by hour here, or thing by thing, cell by cell.
 */
public final class EdgesAheadTest {
    /** 1 in 3, 2 turns, 3 in 2, 4 in 1, 5 in 0 (a is taken), 6 turns, 7, 8, 9 in the sea: a is home. */
    private static final String BACK = "long 4;stream 2;thing a weighs 1 grips 24 minds 1 lies 0;"
            + "mill u at 1 up;mill d at 3 down;mill b at 1 both;";
    /** Things are in each other's way by their weights: it stands in 0 for more than 400 hours, then goes to 1. */
    private static final String STANDS = "long 7;load 5;thing a weighs 2 grips 24 minds 3 lies 5;"
            + "thing b weighs 4 grips 20 minds 3 lies 2;thing c weighs 3 grips 22 minds 4 lies 0;"
            + "thing z weighs 3 grips 9 minds 4;mill m at 1 down;";
    /** a is carried but three cells each time: it is home behind more than 400 hours. */
    private static final String SLOW = "long 14;load 1;thing a weighs 1 grips 3 minds 23 lies 0;mill m at 13 both;";
    /** It slips in the hour in which it is taken: never home, and the same again behind some hours. */
    private static final String ROUND = "long 3;thing a weighs 1 grips 1 minds 1 lies 1;mill m at 1 both;";
    private static final int SEA_OF_STANDS = 6;
    private static final int FREE_IN_STANDS = 3;

    public static void main(String[] args) {
        nowIsInNoHours();
        fourHundredHours();
        lastHourDoesNotMatter();
        homeNow();
        homeInFourHundred();
        homeAgain();
        turnInTheHourThatComes();
        turnBehindThreeHundredNinetyNine();
        turnsFromNowOn();
        groundFromNowOn();
        groundInTheLastOfFourHundred();
        quietNow();
        quietInFourHundred();
        ringOfNothing();
        ringOfTwoHundred();
        ringBehindTwoHundred();
        ringByHours();
        ringByEachThing();
        ringByWhereThingsAre();
        ringIsTheFirst();
        aimAtTheHourThatComes();
        aimAtSixty();
        aimAtTheFirstTurn();
        aimInEachHour();
        soonestInFourHundred();
        soonestOfSeveral();
        soonestFromHome();
        driveInNoHours();
        driveInFortyEight();
        driveAtBothEnds();
        askedAnew();
        driveOfSeveral();
        mindsWithoutTwos();
        mindsByTheFirstTwosAlone();
        mindsAtBothEnds();
        mindsInEachHour();
        mindsByTwentyTwos();
        mindsOfThingsThatDoNotLie();
        mindsInPlaceOfItsOwn();
        askedInTheLastHour();
        askedInTheFirstOfSeveral();
        rideInNoHours();
        rideInFourHundred();
        waitsForFourHundred();
        rideFromACellToItself();
        rideFirstWhereItWould();
        Checks.end();
    }

    private static ForgetStream at(String glen, int hours) {
        ForgetStream x = Checks.with(glen);
        for (int left = hours; left > 0; left -= 168) {
            x.hour(Math.min(left, 168));
        }
        return x;
    }

    /** "In so many HOURS (0 to 400)": 0 is now. */
    private static void nowIsInNoHours() {
        ForgetStream x = at(BACK, 5);
        Checks.ok(x, "27: now", x.atIn(0), 0);
        Checks.ok(x, "28: now", x.carriedIn(0), 1);
        Checks.ok(x, "30: no hours", x.turnsIn(0), 0);
        for (int mill = 0; mill < 3; mill++) {
            Checks.ok(x, "32: no hours", x.groundIn(mill, 0), 0);
        }
        ForgetStream y = at(BACK, 0);
        Checks.ok(y, "27: at first", y.atIn(0), 2);
        Checks.ok(y, "28: at first", y.carriedIn(0), 0);
    }

    private static void fourHundredHours() {
        for (String glen : new String[] {BACK, STANDS, SLOW, ROUND}) {
            for (int hours : new int[] {1, 2, 199, 399, 400}) {
                ForgetStream x = Checks.with(glen);
                ForgetStream then = at(glen, hours);
                String what = " in " + hours + " of " + glen;
                Checks.ok(x, "27:" + what, x.atIn(hours), then.told(6));
                Checks.ok(x, "28:" + what, x.carriedIn(hours), then.told(11));
                Checks.ok(x, "30:" + what, x.turnsIn(hours), then.told(8));
                for (int mill = 0; mill < x.told(1); mill++) {
                    Checks.ok(x, "32:" + what, x.groundIn(mill, hours), then.mill(mill, 2));
                }
            }
        }
    }

    /** "All ahead is as only HOURS go by (HOUR 9,999 does not matter)." */
    private static void lastHourDoesNotMatter() {
        String glen = "long 5;load 3;stream 4;thing a weighs 1 grips 3 minds 2;thing b weighs 2 grips 24 minds 1;"
                + "thing c weighs 3 grips 2 minds 3;mill u at 2 up;mill v at 3 both;";
        ForgetStream late = at(glen, 9999);
        Checks.ok(late, "13: hour 9,999", late.told(5), 9999);
        Checks.no(late, "19: none more", late.hour(1), 4);
        ForgetStream early = at(glen, 0);
        late.toss(0, 1);
        early.toss(0, 1);
        Checks.same("27 to 48: what is ahead of hour 9,999", allAhead(late), allAhead(early));
        ForgetStream last = at(glen, 9998);
        last.toss(0, 1);
        Checks.same("27 to 48: what is ahead of hour 9,998", allAhead(last), allAhead(early));
    }

    private static String allAhead(ForgetStream x) {
        x.tray(0, 0, 4);
        x.write(0, 0, 2);
        x.write(0, 1, 1);
        StringBuilder s = new StringBuilder();
        for (int hours : new int[] {0, 1, 5, 60, 400}) {
            s.append(x.atIn(hours)).append(' ').append(x.carriedIn(hours)).append(' ').append(x.turnsIn(hours));
            s.append(' ').append(x.groundIn(0, hours)).append(' ').append(x.groundIn(1, hours)).append('\n');
        }
        s.append(x.homeIn(0)).append(' ').append(x.turnIn()).append(' ').append(x.quietIn()).append(' ').append(x.ring());
        s.append('\n').append(x.aim(1, 1)).append(' ').append(x.soonest(1)).append(' ').append(x.soonestIn(1)).append(' ');
        s.append(x.drive(0, 1, 2, 48)).append(' ').append(x.driveCell(0, 1, 2, 48, 0)).append(' ');
        s.append(x.driveCell(0, 1, 2, 48, 1)).append('\n').append(x.minded(0, 0, 1)).append(' ');
        s.append(x.mindedAt(0, 0, 1, 1)).append(' ').append(x.ask(0, 0, 0)).append(' ').append(x.ride(1, 4)).append(' ');
        s.append(x.waits(1, 4)).append(' ').append(x.game(0, 1, 2)).append(' ').append(x.moveOf(0, 1, 2, 0)).append('\n');
        return s.toString();
    }

    /** "In how many HOURS (0 to 400) a THING is HOME first" */
    private static void homeNow() {
        ForgetStream x = at(BACK, 8);
        Checks.ok(x, "29: in one", x.homeIn(0), 1);
        x.hour(1);
        Checks.ok(x, "29: now", x.homeIn(0), 0);
        ForgetStream y = new ForgetStream();
        y.make(1, 1, 1);
        Checks.no(y, "29: ashore, in none", y.homeIn(0), 6);
    }

    private static void homeInFourHundred() {
        int home = 0;
        ForgetStream walk = at(SLOW, 400);
        for (int i = 401; i < 700 && home == 0; i++) {
            walk.hour(1);
            home = walk.told(12) == 1 ? i : 0;
        }
        Checks.due("29: home behind more than 400", home > 400, true);
        ForgetStream x = at(SLOW, home - 400);
        Checks.ok(x, "29: in 400", x.homeIn(0), 400);
        ForgetStream y = at(SLOW, home - 401);
        Checks.no(y, "29: in 401", y.homeIn(0), 6);
        ForgetStream z = at(SLOW, home - 399);
        Checks.ok(z, "29: in 399", z.homeIn(0), 399);
    }

    /** What is home now and thrown is home first when it is so again. */
    private static void homeAgain() {
        ForgetStream x = at(BACK, 9);
        x.toss(0, 3);
        Checks.ok(x, "29: in two", x.homeIn(0), 2);
    }

    /** "Behind how many HOURS (0 to 399) the HOUR of the next TURN begins" */
    private static void turnInTheHourThatComes() {
        ForgetStream x = at(BACK, 0);
        Checks.ok(x, "31: behind one", x.turnIn(), 1);
        x.hour(1);
        Checks.ok(x, "31: it begins now", x.turnIn(), 0);
        x.hour(1);
        Checks.ok(x, "31: the next one", x.turnIn(), 3);
        x.hour(4);
        Checks.no(x, "31: none", x.turnIn(), 6);
        ForgetStream y = Checks.with("stream 1 up;");
        Checks.ok(y, "31: at first", y.turnIn(), 0);
    }

    /** The hour of the first turn behind so many hours. */
    private static int nextTurn(String glen, int behind) {
        ForgetStream walk = at(glen, behind);
        for (int i = behind; i < behind + 500; i++) {
            if (walk.hour(1) == 1) {
                return i;
            }
        }
        ForgetStream more = at(glen, behind + 500);
        for (int i = behind + 500; i < behind + 900; i++) {
            if (more.hour(1) == 1) {
                return i;
            }
        }
        return 0;
    }

    private static void turnBehindThreeHundredNinetyNine() {
        int turn = nextTurn(STANDS, 60);
        Checks.due("31: it stands for long", turn > 60 + 400, true);
        ForgetStream x = at(STANDS, turn - 399);
        Checks.ok(x, "31: behind 399", x.turnIn(), 399);
        Checks.ok(x, "30: one in 400", x.turnsIn(400), 1);
        Checks.ok(x, "30: none in 399", x.turnsIn(399), 0);
        ForgetStream y = at(STANDS, turn - 400);
        Checks.no(y, "31: behind 400", y.turnIn(), 6);
        Checks.ok(y, "30: none in 400", y.turnsIn(400), 0);
    }

    /** "in the next HOURS": those that were do not count. */
    private static void turnsFromNowOn() {
        ForgetStream x = at(BACK, 2);
        Checks.ok(x, "13: one was", x.told(8), 1);
        Checks.ok(x, "30: one will be", x.turnsIn(400), 1);
        Checks.ok(x, "30: in the fourth hour", x.turnsIn(4), 1);
        Checks.ok(x, "30: not in three", x.turnsIn(3), 0);
    }

    /** "How often a MILL grinds in the next HOURS" */
    private static void groundFromNowOn() {
        ForgetStream x = at(BACK, 4);
        Checks.ok(x, "16: it has ground", x.mill(2, 2), 1);
        Checks.ok(x, "32: not in two", x.groundIn(2, 2), 0);
        Checks.ok(x, "32: in the third", x.groundIn(2, 3), 1);
        Checks.ok(x, "32: the other one never again", x.groundIn(0, 400), 0);
    }

    /** How many hours of STANDS go by till it is in 1 again, behind so many. */
    private static int nextInOne(int behind) {
        for (int start = behind; start < 1500; start += 300) {
            ForgetStream walk = at(STANDS, start);
            for (int i = start; i < start + 300; i++) {
                if (walk.told(6) == 1) {
                    return i;
                }
                walk.hour(1);
            }
        }
        return 0;
    }

    private static void groundInTheLastOfFourHundred() {
        int inOne = nextInOne(60);
        Checks.due("32: it is in 1 late", inOne > 60 + 401, true);
        ForgetStream x = at(STANDS, inOne - 400);
        Checks.ok(x, "32: ground in the last of 400", x.groundIn(0, 400), 1);
        Checks.ok(x, "32: not in 399", x.groundIn(0, 399), 0);
        Checks.ok(x, "27: in 1 in 400", x.atIn(400), 1);
        Checks.ok(x, "27: not in 399", x.atIn(399), 0);
    }

    /** "QUIET it is if no THING LIES or is CARRIED." */
    private static void quietNow() {
        ForgetStream x = new ForgetStream();
        Checks.ok(x, "33: without things", x.quietIn(), 0);
        x.make(1, 1, 1);
        Checks.ok(x, "33: ashore", x.quietIn(), 0);
        ForgetStream y = at(BACK, 8);
        Checks.ok(y, "13: nothing lies", y.told(10), 0);
        Checks.ok(y, "33: but it is carried", y.quietIn(), 1);
        y.hour(1);
        Checks.ok(y, "33: home", y.quietIn(), 0);
        y.toss(0, 3);
        Checks.ok(y, "33: it lies", y.quietIn(), 2);
        y.fetch(0);
        Checks.ok(y, "33: ashore", y.quietIn(), 0);
    }

    private static void quietInFourHundred() {
        int home = 0;
        ForgetStream walk = at(SLOW, 400);
        for (int i = 401; i < 700 && home == 0; i++) {
            walk.hour(1);
            home = walk.told(10) + walk.told(11) == 0 ? i : 0;
        }
        ForgetStream x = at(SLOW, home - 400);
        Checks.ok(x, "33: in 400", x.quietIn(), 400);
        ForgetStream y = at(SLOW, home - 401);
        Checks.no(y, "33: in 401", y.quietIn(), 6);
    }

    /** "as it was behind one of these ahead of it (or is now)" */
    private static void ringOfNothing() {
        ForgetStream x = Checks.with("stream 7;");
        Checks.ok(x, "34: nothing moves", x.ring(), 1);
        ForgetStream y = new ForgetStream();
        Checks.ok(y, "34: nothing moves behind seven hours", y.ring(), 1);
        ForgetStream z = Checks.with("stream 7 up;");
        Checks.ok(z, "34: which way it runs does not change", z.ring(), 1);
    }

    /**
     * The stream stands by c, which is too heavy; a slips as it is taken, each 25 hours, b each so many hours. Behind
     * the hours in which c gets 99 hours old all is a round of both.
     */
    private static ForgetStream twoClocks(int mind) {
        return at("long 3;load 1;stream 1;thing c weighs 9 grips 1 minds 1 lies 1;thing a weighs 0 grips 1 minds 24 lies 1;"
                + "thing b weighs 0 grips 1 minds " + mind + " lies 1;", 110);
    }

    private static void ringOfTwoHundred() {
        Checks.ok(twoClocks(7), "34: 25 by 8, as far as is looked", twoClocks(7).ring(), 200);
        ForgetStream x = twoClocks(8);
        Checks.no(x, "34: 25 by 9 is too far", x.ring(), 6);
        ForgetStream y = twoClocks(6);
        Checks.ok(y, "34: 25 by 7", y.ring(), 175);
        ForgetStream z = twoClocks(24);
        Checks.ok(z, "34: 25 by 25", z.ring(), 25);
        ForgetStream w = twoClocks(1);
        Checks.ok(w, "34: 25 by 2", w.ring(), 50);
    }

    /** "of the next 200 HOURS": behind the 200th it is seen, behind the 201st not. */
    private static void ringBehindTwoHundred() {
        int home = 0;
        ForgetStream walk = at(SLOW, 400);
        for (int i = 401; i < 700 && home == 0; i++) {
            walk.hour(1);
            home = walk.told(12) == 1 ? i : 0;
        }
        // behind the hour of home and the next one all is the same
        ForgetStream x = at(SLOW, home + 1 - 200);
        Checks.ok(x, "34: the 200th is as the 199th", x.ring(), 1);
        ForgetStream y = at(SLOW, home + 1 - 201);
        Checks.no(y, "34: the 201st is not looked at", y.ring(), 6);
    }

    /** "where the THINGS are, for how long": as long as one gets older nothing is as it was. */
    private static void ringByHours() {
        String glen = "long 3;load 1;stream 1;thing a weighs 9 grips 1 minds 1 lies 1;";
        ForgetStream x = at(glen, 3);
        Checks.ok(x, "34: till it has lain 99 hours", x.ring(), 1);
        // a second one that slips each 25 hours: rounds only behind the 99th hour of the first
        ForgetStream y = at(glen, 3);
        y.make(0, 1, 24);
        y.toss(1, 1);
        Checks.ok(y, "34: 25", y.ring(), 25);
        Checks.ok(y, "14: a has lain three hours", y.thing(0, 4), 3);
        // what can't be seen in 200 hours: 99 till a changes no more, then 125 by 4 of a slower one
        y.make(0, 1, 4);
        y.toss(2, 1);
        Checks.ok(y, "34: 25 still, by 5", y.ring(), 25);
        y.mind(2, 5);
        Checks.no(y, "34: 150 behind 96", y.ring(), 6);
        y.hour(96);
        Checks.ok(y, "34: 150", y.ring(), 150);
    }

    /** Each of eight things is looked at: two of them go round in 25 and 8 hours, by one that is too heavy. */
    private static void ringByEachThing() {
        for (int one = 0; one < 8; one++) {
            for (int other = 0; other < 8; other++) {
                if (one != other) {
                    Checks.due("34: things " + one + " and " + other, ringOf(one, other), 200);
                }
            }
        }
    }

    private static int ringOf(int one, int other) {
        ForgetStream x = Checks.with("long 3;load 1;stream 1;");
        int heavy = one + other == 1 ? 2 : one * other == 0 ? one + other == 7 ? 6 : 7 : 0;
        for (int i = 0; i < 8; i++) {
            x.make(i == heavy ? 9 : 0, 1, i == one ? 24 : i == other ? 7 : 1);
        }
        x.toss(heavy, 1);
        x.hour(3);
        x.toss(one, 1);
        x.toss(other, 1);
        x.hour(110);
        return x.ring();
    }

    /**
     * It slips in 8, is as old there in hour 56 as it was in 0 in hour 7, with the stream in the sea both times, but
     * that is another cell: only behind hour 89, in which it is home, all is as it was.
     */
    private static void ringByWhereThingsAre() {
        for (int thing = 0; thing < 8; thing++) {
            ForgetStream x = Checks.with("long 16;stream 15;");
            for (int i = 0; i < 8; i++) {
                x.make(1, 10, 24);
            }
            x.toss(thing, 0);
            Checks.ok(x, "34: thing " + thing, x.ring(), 1);
            Checks.ok(x, "29: thing " + thing, x.homeIn(thing), 89);
            x.hour(56);
            Checks.ok(x, "15: thing " + thing, x.cellOf(thing), 8);
            Checks.ok(x, "14: thing " + thing, x.thing(thing, 4), 7);
        }
    }

    /** It is the first hour that is as one ahead of it, not any. */
    private static void ringIsTheFirst() {
        ForgetStream x = Checks.with(ROUND);
        int ring = x.ring();
        Checks.due("34: it goes round", ring > 0, true);
        for (int i = 0; i < 200; i += 7) {
            ForgetStream y = at(ROUND, i);
            Checks.ok(y, "34: from each hour the same", y.ring(), ring);
        }
    }

    private static void aimAtTheHourThatComes() {
        // it runs up; nothing is remembered as it is thrown, so only what turns it without that can be in hour 0
        ForgetStream x = Checks.with("long 4;stream 1 up;thing a weighs 1 grips 1 minds 1;");
        Checks.ok(x, "35: by any cell, the least", x.aim(0, 0), 0);
        Checks.no(x, "35: the first is in hour 0, not in 1", x.aim(0, 1), 6);
    }

    private static void aimAtSixty() {
        String glen = "long 16;load 5;thing a weighs 4 grips 22 minds 1 lies 13;thing z weighs 2 grips 23 minds 3;";
        ForgetStream x = Checks.with(glen);
        int cell = aimed(glen, 1, 60);
        Checks.due("35: there is one for 60", cell > 0, true);
        Checks.ok(x, "35: in 60", x.aim(1, 60), cell);
        Checks.no(x, "35: 61 can't be", x.aim(1, 61), 1);
        Checks.ok(x, "14: it is ashore still", x.thing(1, 3), 0);
    }

    /** The least cell by which it turns first in an hour, cell by cell. */
    private static int aimed(String glen, int thing, int hour) {
        int cells = Checks.with(glen).told(2);
        for (int cell = 0; cell < cells; cell++) {
            ForgetStream x = Checks.with(glen);
            x.toss(thing, cell);
            if (x.turnIn() == hour) {
                return cell;
            }
        }
        return -1;
    }

    /** "so that the first TURN is in that HOUR" */
    private static void aimAtTheFirstTurn() {
        // thrown into cell 0 by mind 2 it turns in hour 2, and again in hour 6
        ForgetStream x = Checks.with("long 4;stream 3;thing a weighs 1 grips 24 minds 2;");
        Checks.ok(x, "35: hour 2", x.aim(0, 2), 0);
        Checks.no(x, "35: hour 6 is its second", x.aim(0, 6), 6);
        x.toss(0, 0);
        x.hour(6);
        Checks.ok(x, "31: though it turns then", x.turnIn(), 0);
    }

    private static void aimInEachHour() {
        String[] glens = {"long 4;stream 3 up;thing a weighs 1 grips 24 minds 2;",
            "long 16;load 5;thing a weighs 4 grips 22 minds 1 lies 13;thing z weighs 2 grips 23 minds 3;",
            "long 9;stream 4;thing a weighs 1 grips 2 minds 4 lies 2;thing z weighs 0 grips 1 minds 1;"};
        for (String glen : glens) {
            ForgetStream x = Checks.with(glen);
            int thing = x.told(0) - 1;
            for (int hour = 0; hour <= 60; hour++) {
                int cell = aimed(glen, thing, hour);
                int got = x.aim(thing, hour);
                Checks.due("35: hour " + hour + " of " + glen, got, cell);
                Checks.due("35: status", x.status(), cell < 0 ? 6 : 0);
            }
        }
    }

    /** The hours till a free thing is home by each cell, and the least: the cell, or the hours. */
    private static int soonest(String glen, int hours, int thing, boolean cellIsAsked) {
        int best = -1;
        int bestCell = -1;
        for (int cell = 0; cell < at(glen, 0).told(2); cell++) {
            ForgetStream x = at(glen, hours);
            x.toss(thing, cell);
            int home = x.homeIn(thing);
            if (home >= 0 && (best < 0 || home < best)) {
                best = home;
                bestCell = cell;
            }
        }
        return cellIsAsked ? bestCell : best;
    }

    /** "SOONEST (1; 6: by none in 400 HOURS; 7)" */
    private static void soonestInFourHundred() {
        ForgetStream x = at(STANDS, 199);
        Checks.due("37: by each cell", soonest(STANDS, 199, FREE_IN_STANDS, false), 400);
        Checks.ok(x, "37: in 400", x.soonestIn(FREE_IN_STANDS), 400);
        Checks.ok(x, "36: the sea", x.soonest(FREE_IN_STANDS), SEA_OF_STANDS);
        ForgetStream y = at(STANDS, 198);
        Checks.due("37: by no cell", soonest(STANDS, 198, FREE_IN_STANDS, false), -1);
        Checks.no(y, "37: in 401", y.soonestIn(FREE_IN_STANDS), 6);
        Checks.no(y, "36: in 401", y.soonest(FREE_IN_STANDS), 6);
    }

    /** "of several the least" */
    private static void soonestOfSeveral() {
        String[] glens = {"long 4;thing a weighs 1 grips 24 minds 1;", "long 9;stream 3 up;thing a weighs 1 grips 3 minds 2;",
            "long 2;stream 1;thing a weighs 1 grips 1 minds 24;", "long 4;load 1;thing a weighs 2 grips 1 minds 1;",
            "long 4;stream 3;thing b weighs 1 grips 24 minds 1 lies 0;thing a weighs 1 grips 24 minds 4;"};
        for (String glen : glens) {
            ForgetStream x = Checks.with(glen);
            int thing = x.told(0) - 1;
            Checks.due("36: " + glen, x.soonest(thing), soonest(glen, 0, thing, true));
            Checks.due("37: " + glen, x.soonestIn(thing), soonest(glen, 0, thing, false));
        }
        // from 0 down it comes by 2 as a comes to mind: 2 and 3 are as good
        ForgetStream y = Checks.with(glens[0]);
        Checks.ok(y, "36: the least", y.soonest(0), 2);
    }

    /** A thing that is HOME is so again: it must be thrown. */
    private static void soonestFromHome() {
        ForgetStream x = at(BACK, 9);
        Checks.ok(x, "36: into the sea", x.soonest(0), 3);
        Checks.ok(x, "37: by its mind, and the hour in which it is taken", x.soonestIn(0), 2);
        x.mind(0, 24);
        Checks.ok(x, "37: by the greatest mind", x.soonestIn(0), 25);
    }

    private static final String DRIVEN = "long 4;stream 3;thing a weighs 1 grips 24 minds 1;thing b weighs 1 grips 4 minds 3;"
            + "thing c weighs 1 grips 24 minds 2;mill u at 1 up;mill d at 2 down;mill v at 0 both;";

    /** "for n HOURS (0 to 48)" */
    private static void driveInNoHours() {
        ForgetStream x = Checks.with(DRIVEN);
        Checks.ok(x, "38: nothing in 0", x.drive(0, 0, 1, 0), 0);
        Checks.ok(x, "39: the least for the first", x.driveCell(0, 0, 1, 0, 0), 0);
        Checks.ok(x, "39: the least for the second", x.driveCell(0, 0, 1, 0, 1), 0);
    }

    private static void driveInFortyEight() {
        for (int mill = 0; mill < 3; mill++) {
            for (int hours : new int[] {1, 7, 47, 48}) {
                driven(mill, 0, 1, hours);
                driven(mill, 1, 0, hours);
                driven(mill, 2, 1, hours);
            }
        }
    }

    /** "the CELLS .. that it grinds the most in these; of several the least for the first, then for the second" */
    private static void driven(int mill, int thing, int other, int hours) {
        int best = -1;
        int first = -1;
        int second = -1;
        for (int cell = 0; cell < 4; cell++) {
            for (int otherCell = 0; otherCell < 4; otherCell++) {
                ForgetStream x = Checks.with(DRIVEN);
                x.toss(thing, cell);
                x.toss(other, otherCell);
                int ground = x.groundIn(mill, hours);
                if (ground > best) {
                    best = ground;
                    first = cell;
                    second = otherCell;
                }
            }
        }
        ForgetStream x = Checks.with(DRIVEN);
        String what = "38: drive(" + mill + ", " + thing + ", " + other + ", " + hours + ")";
        Checks.ok(x, what, x.drive(mill, thing, other, hours), best);
        Checks.ok(x, what + " first", x.driveCell(mill, thing, other, hours, 0), first);
        Checks.ok(x, what + " second", x.driveCell(mill, thing, other, hours, 1), second);
    }

    /** A stream never comes up into the sea, nor down into cell 0: there are no cells beyond. */
    private static void driveAtBothEnds() {
        ForgetStream x = Checks.with("long 4;stream 2;thing a weighs 1 grips 24 minds 1;thing b weighs 1 grips 24 minds 3;"
                + "mill u at 3 up;mill d at 0 down;mill v at 3 down;mill w at 0 up;");
        for (int mill = 0; mill < 2; mill++) {
            Checks.ok(x, "38: mill " + mill, x.drive(mill, 0, 1, 48), 0);
            Checks.ok(x, "39: mill " + mill, x.driveCell(mill, 0, 1, 48, 0), 0);
            Checks.ok(x, "39: mill " + mill, x.driveCell(mill, 0, 1, 48, 1), 0);
        }
        Checks.ok(x, "38: down into the sea", x.drive(2, 0, 1, 48) > 0 ? 1 : 0, 1);
        Checks.ok(x, "38: up into 0", x.drive(3, 0, 1, 48) > 0 ? 1 : 0, 1);
    }

    /** Each question by itself, whatever was asked ahead of it; and of things, mills, loads, minds as they are now. */
    private static void askedAnew() {
        ForgetStream x = Checks.with(DRIVEN);
        Checks.ok(x, "38: more in 48", x.drive(0, 0, 1, 48) > 0 ? 1 : 0, 1);
        Checks.ok(x, "38: nothing in 0", x.drive(0, 0, 1, 0), 0);
        Checks.ok(x, "39: the least", x.driveCell(0, 0, 1, 0, 0), 0);
        ForgetStream made = madeBy(new ForgetStream());
        Checks.ok(made, "38: what was made", made.drive(0, 0, 1, 6), 1);
        made = madeBy(new ForgetStream());
        made.tray(0, 0, 0);
        Checks.ok(made, "40: what was made", made.minded(0, 0, 0), 24);
        made = madeBy(new ForgetStream());
        made.toss(0, 1);
        made.hour(8);
        made.tray(0, 0, 2);
        made.write(0, 1, 1);
        Checks.ok(made, "40: it turns back now by minds above 8", made.minded(0, 0, 1), 16);
        made = madeBy(new ForgetStream());
        Checks.ok(made, "36: what was made", made.soonest(1), 7);
        made = madeBy(new ForgetStream());
        Checks.ok(made, "35: what was made", made.aim(0, 2), 0);
        made = madeBy(new ForgetStream());
        Checks.ok(made, "47: what was made", made.game(0, 1, 1), 1);
    }

    /** 0 comes to mind behind two hours, 1 behind three, and a mill is in 6; it is in the sea. */
    private static ForgetStream madeBy(ForgetStream x) {
        x.hour(9);
        x.make(1, 24, 2);
        x.make(2, 24, 3);
        x.build(6, 0);
        x.build(6, 1);
        return x;
    }

    private static void driveOfSeveral() {
        // no cell makes u grind in an hour: the least of all
        ForgetStream x = Checks.with(DRIVEN);
        x.hour(1);
        Checks.ok(x, "38: nothing in 1", x.drive(0, 2, 0, 1), 0);
        Checks.ok(x, "39: the least", x.driveCell(0, 2, 0, 1, 0), 0);
        Checks.ok(x, "39: the least", x.driveCell(0, 2, 0, 1, 1), 0);
        // what was ground ahead does not count
        ForgetStream y = at(BACK, 9);
        y.make(1, 24, 1);
        Checks.ok(y, "16: once", y.mill(0, 2), 1);
        Checks.ok(y, "38: none in 2", y.drive(0, 0, 1, 2), 0);
        Checks.ok(y, "38: once in 4", y.drive(0, 0, 1, 4), 1);
    }

    /** "the first n (0 to 20) twos" */
    private static void mindsWithoutTwos() {
        ForgetStream x = at(BACK, 0);
        x.tray(0, 0, 0);
        Checks.ok(x, "40: all", x.minded(0, 0, 0), 24);
        Checks.ok(x, "41: the least", x.mindedAt(0, 0, 0, 0), 1);
        Checks.ok(x, "41: the greatest", x.mindedAt(0, 0, 0, 1), 24);
    }

    /** What a tray has behind the first n twos does not matter. */
    private static void mindsByTheFirstTwosAlone() {
        ForgetStream x = Checks.with("long 4;stream 3;thing a weighs 1 grips 24 minds 2 lies 0;");
        x.tray(0, 0, 6);
        x.write(0, 0, 5);
        x.write(0, 1, 1);
        x.write(0, 2, 5);
        x.write(0, 4, 77);
        Checks.ok(x, "40: none of any", x.minded(0, 0, 0), 24);
        Checks.ok(x, "40: one", x.minded(0, 0, 1), 2);
        Checks.ok(x, "40: two, which can't both be", x.minded(0, 0, 2), 0);
        Checks.no(x, "40: three, of which one can't be", x.minded(0, 0, 3), 5);
    }

    /** "MINDS (1 to 24)" */
    private static void mindsAtBothEnds() {
        ForgetStream x = Checks.with("long 4;stream 3;thing a weighs 1 grips 24 minds 2 lies 0;");
        x.tray(0, 0, 4);
        // by mind m it turns in hour m and in hour m + 4
        x.write(0, 0, 1);
        x.write(0, 1, 1);
        Checks.ok(x, "40: 1 alone", x.minded(0, 0, 1), 1);
        Checks.ok(x, "41: the least", x.mindedAt(0, 0, 1, 0), 1);
        Checks.ok(x, "41: the greatest", x.mindedAt(0, 0, 1, 1), 1);
        x.write(0, 0, 28);
        Checks.ok(x, "40: 24 alone", x.minded(0, 0, 1), 1);
        Checks.ok(x, "41: the least", x.mindedAt(0, 0, 1, 0), 24);
        Checks.ok(x, "41: the greatest", x.mindedAt(0, 0, 1, 1), 24);
        x.write(0, 0, 29);
        Checks.ok(x, "40: none", x.minded(0, 0, 1), 0);
        Checks.no(x, "41: none", x.mindedAt(0, 0, 1, 0), 6);
        Checks.no(x, "41: none", x.mindedAt(0, 0, 1, 1), 6);
    }

    private static final String TURNING = "long 5;load 5;thing a weighs 2 grips 1 minds 1 lies 2;thing z weighs 0 grips 3 minds 2;";

    /** By each mind, in each hour from 0 to 60: whether it turns. */
    private static boolean[][] turns(String glen, int thing) {
        boolean[][] turns = new boolean[25][61];
        for (int mind = 1; mind <= 24; mind++) {
            ForgetStream x = Checks.with(glen);
            x.mind(thing, mind);
            for (int hour = 0; hour <= 60; hour++) {
                turns[mind][hour] = x.hour(1) == 1;
            }
        }
        return turns;
    }

    private static void mindsInEachHour() {
        boolean[][] turns = turns(TURNING, 0);
        ForgetStream x = Checks.with(TURNING);
        x.tray(2, 1, 2);
        for (int hour = 0; hour <= 60; hour++) {
            int count = 0;
            int least = -1;
            int greatest = -1;
            for (int mind = 1; mind <= 24; mind++) {
                if (turns[mind][hour]) {
                    count++;
                    least = least < 0 ? mind : least;
                    greatest = mind;
                }
            }
            x.write(2, 0, hour);
            x.write(2, 1, 1);
            Checks.ok(x, "40: it turns in " + hour, x.minded(0, 2, 1), count);
            Checks.due("41: the least in " + hour, x.mindedAt(0, 2, 1, 0), least);
            Checks.due("41: the greatest in " + hour, x.mindedAt(0, 2, 1, 1), greatest);
            x.write(2, 1, 0);
            Checks.ok(x, "40: it does not in " + hour, x.minded(0, 2, 1), 24 - count);
        }
    }

    private static void mindsByTwentyTwos() {
        boolean[][] turns = turns(TURNING, 0);
        for (int mind = 1; mind <= 24; mind++) {
            ForgetStream x = Checks.with(TURNING);
            x.tray(3, 3, 60);
            // the 20 hours that part this mind best are told to be those of the mind; the last one alone is not
            for (int i = 0; i < 20; i++) {
                x.write(3, 2 * i, 3 * i + 3);
                x.write(3, 2 * i + 1, turns[mind][3 * i + 3] ? 1 : 0);
            }
            int count = 0;
            int withoutLast = 0;
            for (int other = 1; other <= 24; other++) {
                int same = 0;
                while (same < 20 && turns[other][3 * same + 3] == turns[mind][3 * same + 3]) {
                    same++;
                }
                count += same == 20 ? 1 : 0;
                withoutLast += same >= 19 ? 1 : 0;
            }
            Checks.ok(x, "40: twenty twos by mind " + mind, x.minded(0, 3, 20), count);
            Checks.ok(x, "40: nineteen by mind " + mind, x.minded(0, 3, 19), withoutLast);
            // "for all twos": also for the last one
            x.write(3, 39, turns[mind][60] ? 0 : 1);
            Checks.ok(x, "40: another one in the last hour", x.minded(0, 3, 20), withoutLast - count);
        }
    }

    /** A mind can't make a difference then. */
    private static void mindsOfThingsThatDoNotLie() {
        ForgetStream x = House.full();
        int[] things = {House.HOME, House.ASHORE, House.CARRIED};
        for (int thing : things) {
            Checks.ok(x, "40: thing " + thing, x.minded(thing, House.SIXTY, 0), 24);
            Checks.ok(x, "42: no hour parts them", x.ask(thing, House.SIXTY, 0), 0);
        }
    }

    /** "in place of its own" */
    private static void mindsInPlaceOfItsOwn() {
        ForgetStream x = Checks.with("long 4;stream 3;thing a weighs 1 grips 24 minds 2 lies 0;");
        x.tray(0, 0, 2);
        x.write(0, 0, 7);
        x.write(0, 1, 1);
        Checks.ok(x, "41: by mind 7, not 2", x.mindedAt(0, 0, 1, 1), 7);
        Checks.ok(x, "14: its own stays", x.thing(0, 2), 2);
        Checks.ok(x, "31: it turns by its own", x.turnIn(), 2);
    }

    /** "the number of HOURS (0 to 60) by which these are parted the best: the greater of both numbers is the least" */
    private static int asked(String glen, int thing) {
        boolean[][] turns = turns(glen, thing);
        int best = 25;
        int question = -1;
        for (int hour = 0; hour <= 60; hour++) {
            int count = 0;
            for (int mind = 1; mind <= 24; mind++) {
                count += turns[mind][hour] ? 1 : 0;
            }
            if (Math.max(count, 24 - count) < best) {
                best = Math.max(count, 24 - count);
                question = hour;
            }
        }
        return question;
    }

    private static void askedInTheLastHour() {
        Checks.due("42: by each hour", asked(TURNING, 0), 60);
        ForgetStream x = Checks.with(TURNING);
        x.tray(0, 0, 0);
        Checks.ok(x, "42: in 60", x.ask(0, 0, 0), 60);
        String glen = "long 3;load 5;thing a weighs 5 grips 2 minds 1 lies 0;thing z weighs 1 grips 1 minds 4;";
        Checks.due("42: by each hour", asked(glen, 0), 59);
        ForgetStream y = Checks.with(glen);
        y.tray(0, 0, 0);
        Checks.ok(y, "42: in 59", y.ask(0, 0, 0), 59);
    }

    /** "of several the first" */
    private static void askedInTheFirstOfSeveral() {
        ForgetStream x = Checks.with("long 4;stream 3;thing a weighs 1 grips 24 minds 2 lies 0;");
        x.tray(0, 0, 4);
        // it turns by mind m in hour m and in hour m + 4: 1 and 5 turn in 5
        x.write(0, 0, 5);
        x.write(0, 1, 1);
        Checks.ok(x, "42: hour 1 parts 1 and 5, as 9 does", x.ask(0, 0, 1), 1);
        x.write(0, 0, 0);
        x.write(0, 1, 0);
        Checks.ok(x, "42: two of 24 turn in 5 first", x.ask(0, 0, 1), 5);
        // by what does not lie no hour parts them: hour 0 is as good as any
        x.fetch(0);
        Checks.ok(x, "42: of 61 the first", x.ask(0, 0, 0), 0);
    }

    /** "a boat waits in the first till the STREAM is there (now, too)" */
    private static void rideInNoHours() {
        ForgetStream x = at(BACK, 0);
        Checks.ok(x, "45: it is there", x.ride(2, 2), 0);
        Checks.ok(x, "46: it does not wait", x.waits(2, 2), 0);
        Checks.ok(x, "45: an hour from now", x.ride(2, 3), 1);
        Checks.ok(x, "46: it does not wait", x.waits(2, 3), 0);
    }

    /** "(1; 6: not in 400 HOURS)" */
    private static void rideInFourHundred() {
        int inOne = nextInOne(60);
        ForgetStream x = at(STANDS, inOne - 400);
        Checks.ok(x, "45: in 400", x.ride(0, 1), 400);
        Checks.ok(x, "46: it waits for none of them", x.waits(0, 1), 0);
        ForgetStream y = at(STANDS, inOne - 401);
        Checks.no(y, "45: in 401", y.ride(0, 1), 6);
        Checks.no(y, "46: in 401", y.waits(0, 1), 6);
    }

    private static void waitsForFourHundred() {
        int inOne = nextInOne(60);
        ForgetStream x = at(STANDS, inOne - 400);
        Checks.ok(x, "46: all of 400", x.waits(1, 1), 400);
        Checks.ok(x, "45: all of 400", x.ride(1, 1), 400);
        // it turns there, and is in 0 again two hours later
        Checks.no(x, "45: 0 in 402", x.ride(1, 0), 6);
        Checks.no(x, "46: 0 in 402", x.waits(1, 0), 6);
        x.hour(1);
        Checks.no(x, "45: 0 in 401", x.ride(1, 0), 6);
        x.hour(1);
        Checks.ok(x, "45: 0 in 400", x.ride(1, 0), 400);
        Checks.ok(x, "46: 398 of them", x.waits(1, 0), 398);
        ForgetStream y = at(STANDS, inOne - 401);
        Checks.no(y, "46: 401", y.waits(1, 1), 6);
        Checks.no(y, "45: 401", y.ride(1, 1), 6);
    }

    private static void rideFromACellToItself() {
        ForgetStream x = at(BACK, 0);
        Checks.ok(x, "45: as long as it waits", x.ride(0, 0), 5);
        Checks.ok(x, "46: as long as it waits", x.waits(0, 0), 5);
        Checks.ok(x, "45: the first time alone", x.ride(1, 1), 4);
    }

    /** "goes with it, and is in how many HOURS first where it would" */
    private static void rideFirstWhereItWould() {
        ForgetStream x = at(BACK, 0);
        Checks.ok(x, "45: down, and up by it", x.ride(2, 1), 4);
        Checks.ok(x, "45: not where the stream was ahead of the boat", x.ride(0, 3), 9);
        Checks.ok(x, "46: from hour 5 on", x.waits(0, 3), 5);
        Checks.ok(x, "45: the first time it is in 3", x.ride(2, 3), 1);
    }
}
