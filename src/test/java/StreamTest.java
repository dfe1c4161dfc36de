/** Promises 2, 13 to 34: what is told, what is done, what will be. */
public final class StreamTest {
    /** In hours: 1 it is in 3, 2 turns, 3 in 2, 4 in 1, 5 in 0 (takes a up), 6 turns, 7, 8, 9 in the sea: home. */
    private static final String BACK = "long 4;stream 2;thing a weighs 1 grips 24 minds 1 lies 0;"
            + "mill u at 1 up;mill d at 3 down;mill b at 1 both;";
    /** It is never home: it slips in the hour in which it is taken up. */
    private static final String ROUND = "long 3;thing a weighs 1 grips 1 minds 1 lies 1;";

    public static void main(String[] args) {
        hoursOneByOne();
        slips();
        goals();
        loads();
        oldAge();
        wrongNumbers();
        done();
        lastHours();
        willBe();
        goesRound();
        farAhead();
        Checks.end();
    }

    private static void hoursOneByOne() {
        ForgetStream x = Checks.with(BACK);
        int[] at = {3, 3, 2, 1, 0, 0, 1, 2, 3, 3};
        int[] way = {1, 0, 0, 0, 0, 1, 1, 1, 1, 1};
        int[] turned = {0, 1, 0, 0, 0, 1, 0, 0, 0, 0};
        int[] state = {1, 1, 1, 1, 2, 2, 2, 2, 3, 3};
        int[] age = {1, 2, 3, 4, 1, 2, 3, 4, 0, 0};
        int[] up = {0, 0, 0, 1, 1, 1, 1, 1, 1, 1};
        int[] down = {1, 1, 1, 1, 1, 1, 1, 1, 2, 2};
        int[] both = {0, 0, 0, 1, 1, 1, 2, 2, 2, 2};
        int turns = 0;
        for (int i = 0; i < at.length; i++) {
            String hour = "19: hour " + (i + 1);
            turns += turned[i];
            Checks.ok(x, hour, x.hour(1), turned[i]);
            Checks.ok(x, hour + ": the hour", x.told(5), i + 1);
            Checks.ok(x, hour + ": the cell", x.told(6), at[i]);
            Checks.ok(x, hour + ": the way", x.told(7), way[i]);
            Checks.ok(x, hour + ": turns", x.told(8), turns);
            Checks.ok(x, hour + ": lies", x.told(10), state[i] == 1 ? 1 : 0);
            Checks.ok(x, hour + ": carried", x.told(11), state[i] == 2 ? 1 : 0);
            Checks.ok(x, hour + ": home", x.told(12), state[i] == 3 ? 1 : 0);
            Checks.ok(x, hour + ": remembered", x.told(13), state[i] == 1 ? 1 : 0);
            Checks.ok(x, hour + ": weighs", x.told(14), state[i] == 2 ? 1 : 0);
            Checks.ok(x, hour + ": state", x.thing(0, 3), state[i]);
            Checks.ok(x, hour + ": hours", x.thing(0, 4), age[i]);
            Checks.ok(x, hour + ": homes", x.thing(0, 5), state[i] == 3 ? 1 : 0);
            Checks.ok(x, hour + ": mill u", x.mill(0, 2), up[i]);
            Checks.ok(x, hour + ": mill d", x.mill(1, 2), down[i]);
            Checks.ok(x, hour + ": mill b", x.mill(2, 2), both[i]);
            if (state[i] == 3) {
                Checks.no(x, hour + ": cellOf", x.cellOf(0), 6);
            } else {
                Checks.ok(x, hour + ": cellOf", x.cellOf(0), state[i] == 1 ? 0 : at[i]);
            }
        }
        Checks.ok(x, "20: thrown from home", x.toss(0, 3));
        Checks.ok(x, "19: two hours", x.hour(2), 0);
        Checks.ok(x, "14: home twice", x.thing(0, 5), 2);
        Checks.ok(Checks.with(BACK), "19: nine hours", Checks.with(BACK).hour(9), 2);
    }

    private static void slips() {
        ForgetStream x = Checks.with(BACK);
        x.grip(0, 4);
        x.hour(8);
        Checks.ok(x, "22: it slipped in 2", x.cellOf(0), 2);
        Checks.ok(x, "19: for 0 hours", x.thing(0, 4), 0);
        Checks.ok(x, "14: it lies", x.thing(0, 3), 1);
        x.hour(1);
        Checks.ok(x, "19: for 1 hour", x.thing(0, 4), 1);
        Checks.ok(x, "29: home in 4 more", x.homeIn(0), 4);
        // a grip that is over already
        ForgetStream y = Checks.with(BACK);
        y.hour(7);
        Checks.ok(y, "22: grip 1", y.grip(0, 1));
        Checks.ok(y, "22: carried still", y.thing(0, 3), 2);
        y.hour(1);
        Checks.ok(y, "22: slipped in the next hour", y.cellOf(0), 2);
        // in the sea it is home ahead of slipping
        ForgetStream z = Checks.with("long 2;stream 1;thing a weighs 9 grips 1 minds 1 lies 1;");
        Checks.ok(z, "19: home, not slipped", z.homeIn(0), 2);
    }

    private static void goals() {
        ForgetStream x = Checks.with("long 9;stream 4;thing a weighs 0 grips 9 minds 3 lies 6;"
                + "thing b weighs 0 grips 9 minds 1 lies 1;thing c weighs 0 grips 9 minds 2 lies 2;");
        Checks.ok(x, "17: the sea", x.goal(), 8);
        Checks.no(x, "18: none", x.goalThing(), 6);
        x.hour(1);
        Checks.ok(x, "17: b", x.goal(), 1);
        Checks.ok(x, "18: b", x.goalThing(), 1);
        Checks.ok(x, "13: b alone", x.told(13), 2);
        x.hour(2);
        Checks.ok(x, "13: all", x.told(13), 7);
        Checks.ok(x, "18: of several the first", x.goalThing(), 0);
        Checks.ok(x, "17: its cell", x.goal(), 6);
        x.mind(0, 24);
        Checks.ok(x, "23: not remembered any more", x.goalThing(), 1);
        x.fetch(1);
        Checks.ok(x, "18: c", x.goalThing(), 2);
        x.toss(1, 0);
        x.mind(1, 1);
        x.hour(1);
        Checks.ok(x, "18: the longest, not the first", x.goalThing(), 2);
    }

    private static void loads() {
        // b is too heavy beside a, c is taken in its place; by numbers, not by weight
        ForgetStream x = Checks.with("long 5;load 9;stream 2;thing a weighs 5 grips 9 minds 1 lies 2;"
                + "thing b weighs 5 grips 9 minds 1 lies 2;thing c weighs 4 grips 9 minds 1 lies 2;"
                + "thing d weighs 0 grips 9 minds 5 lies 2;");
        x.hour(1);
        Checks.ok(x, "19: not yet", x.told(11), 0);
        Checks.ok(x, "19: it ran down", x.told(6), 3);
        x.hour(2);
        Checks.ok(x, "19: a and c", x.told(11), 5);
        Checks.ok(x, "13: what they weigh", x.told(14), 9);
        Checks.ok(x, "26: load 10", x.rule(3, 10));
        Checks.ok(x, "13: load", x.told(3), 10);
        x.hour(1);
        Checks.ok(x, "19: b is too heavy still", x.told(11), 5);
        x.rule(3, 14);
        x.hour(1);
        Checks.ok(x, "26: b, too", x.told(11), 7);
        // it stands for ever by what it can't take up
        ForgetStream y = Checks.with("long 5;load 3;thing a weighs 4 grips 9 minds 1 lies 2;");
        Checks.ok(y, "27: it stands", y.atIn(400), 2);
        Checks.ok(y, "34: till it has lain 99 hours", y.ring(), 1);
        Checks.no(y, "29: never home", y.homeIn(0), 6);
    }

    private static void oldAge() {
        ForgetStream x = Checks.with("long 5;load 3;thing a weighs 4 grips 9 minds 24 lies 2;"
                + "thing b weighs 4 grips 9 minds 24 lies 3;");
        x.hour(98);
        Checks.ok(x, "19: 98 hours", x.thing(0, 4), 98);
        x.hour(1);
        Checks.ok(x, "19: 99 hours", x.thing(0, 4), 99);
        x.hour(100);
        Checks.ok(x, "19: 99 at most", x.thing(1, 4), 99);
        Checks.ok(x, "34: nothing changes", x.ring(), 1);
        // only in the 200th hour all is as it was behind the 199th
        ForgetStream y = Checks.with("long 2;load 3;thing a weighs 4 grips 9 minds 1 lies 0;");
        Checks.ok(y, "34: behind 100 hours", y.ring(), 1);
    }

    private static void wrongNumbers() {
        ForgetStream x = Checks.with(BACK);
        Checks.no(x, "13: -1", x.told(-1), 1);
        Checks.no(x, "13: 15", x.told(15), 1);
        Checks.no(x, "14: thing -1", x.thing(-1, 0), 1);
        Checks.no(x, "14: thing 1", x.thing(1, 0), 1);
        Checks.no(x, "14: what 6", x.thing(0, 6), 1);
        Checks.no(x, "14: what -1", x.thing(0, -1), 1);
        Checks.no(x, "15: thing 1", x.cellOf(1), 1);
        Checks.no(x, "16: mill 3", x.mill(3, 0), 1);
        Checks.no(x, "16: mill -1", x.mill(-1, 0), 1);
        Checks.no(x, "16: what 3", x.mill(0, 3), 1);
        Checks.due("2: the latest that has one", x.status(), 1);
        x.top();
        x.bottom();
        x.fault(0);
        x.feed(0, 0, 0, 0, 0);
        Checks.due("2: these have none", x.status(), 1);
        Checks.no(x, "19: 0 hours", x.hour(0), 1);
        Checks.no(x, "19: 169 hours", x.hour(169), 1);
        Checks.no(x, "20: thing 1", x.toss(1, 0), 1);
        Checks.no(x, "20: cell 4", x.toss(0, 4), 1);
        Checks.no(x, "20: cell -1", x.toss(0, -1), 1);
        Checks.no(x, "20: it lies", x.toss(0, 0), 7);
        Checks.no(x, "21: thing -1", x.fetch(-1), 1);
        Checks.no(x, "22: thing 1", x.grip(1, 1), 1);
        Checks.no(x, "22: 0", x.grip(0, 0), 1);
        Checks.no(x, "22: 25", x.grip(0, 25), 1);
        Checks.no(x, "23: thing 8", x.mind(8, 1), 1);
        Checks.no(x, "23: 0", x.mind(0, 0), 1);
        Checks.no(x, "23: 25", x.mind(0, 25), 1);
        Checks.no(x, "26: what 2", x.rule(2, 8), 1);
        Checks.no(x, "26: what 5", x.rule(5, 8), 1);
        Checks.no(x, "26: load 0", x.rule(3, 0), 1);
        Checks.no(x, "26: load 41", x.rule(3, 41), 1);
        Checks.no(x, "26: odds -1", x.rule(4, -1), 1);
        Checks.no(x, "26: odds 17", x.rule(4, 17), 1);
        Checks.no(x, "27: -1", x.atIn(-1), 1);
        Checks.no(x, "27: 401", x.atIn(401), 1);
        Checks.no(x, "28: 401", x.carriedIn(401), 1);
        Checks.no(x, "28: -1", x.carriedIn(-1), 1);
        Checks.no(x, "29: thing 1", x.homeIn(1), 1);
        Checks.no(x, "30: 401", x.turnsIn(401), 1);
        Checks.no(x, "30: -1", x.turnsIn(-1), 1);
        Checks.no(x, "32: mill 3", x.groundIn(3, 0), 1);
        Checks.no(x, "32: 401", x.groundIn(0, 401), 1);
        Checks.no(x, "32: -1", x.groundIn(0, -1), 1);
        Checks.ok(x, "nothing changed: grip", x.thing(0, 1), 24);
        Checks.ok(x, "nothing changed: mind", x.thing(0, 2), 1);
        Checks.ok(x, "nothing changed: load", x.told(3), 10);
        Checks.ok(x, "nothing changed: hour", x.told(5), 0);
    }

    private static void done() {
        ForgetStream x = Checks.with(BACK);
        x.hour(5);
        Checks.no(x, "20: it is carried", x.toss(0, 0), 7);
        Checks.no(x, "21: it is carried", x.fetch(0), 7);
        x.hour(4);
        Checks.no(x, "21: it is home", x.fetch(0), 7);
        Checks.ok(x, "20: thrown", x.toss(0, 2));
        Checks.ok(x, "15: where it lies", x.cellOf(0), 2);
        x.hour(1);
        Checks.ok(x, "21: fetched", x.fetch(0), 2);
        Checks.ok(x, "14: ashore", x.thing(0, 3), 0);
        Checks.ok(x, "14: 0 hours", x.thing(0, 4), 0);
        Checks.ok(x, "13: ashore", x.told(9), 1);
        Checks.no(x, "15: nowhere", x.cellOf(0), 6);
        Checks.no(x, "21: ashore already", x.fetch(0), 7);
        Checks.ok(x, "22: grip", x.grip(0, 24));
        Checks.ok(x, "22: told", x.thing(0, 1), 24);
        Checks.ok(x, "23: mind", x.mind(0, 24));
        Checks.ok(x, "23: told", x.thing(0, 2), 24);
        Checks.ok(x, "22: the least grip", x.grip(0, 1));
        Checks.ok(x, "23: the least mind", x.mind(0, 1));
        Checks.ok(x, "23: told", x.thing(0, 2), 1);
        Checks.ok(x, "26: odds", x.rule(4, 16));
        Checks.ok(x, "13: odds", x.told(4), 16);
        made();
    }

    private static void made() {
        ForgetStream x = Checks.with("long 4;mill a at 0 up;");
        Checks.no(x, "24: weight 10", x.make(10, 1, 1), 1);
        Checks.no(x, "24: weight -1", x.make(-1, 1, 1), 1);
        Checks.no(x, "24: grip 0", x.make(1, 0, 1), 1);
        Checks.no(x, "24: grip 25", x.make(1, 25, 1), 1);
        Checks.no(x, "24: mind 0", x.make(1, 1, 0), 1);
        Checks.no(x, "24: mind 25", x.make(1, 1, 25), 1);
        for (int i = 0; i < 8; i++) {
            Checks.ok(x, "24: thing " + i, x.make(9 - i, 24 - i, 1 + i), i);
        }
        int[] due = {4, 19, 6, 0, 0, 0};
        for (int i = 0; i < due.length; i++) {
            Checks.ok(x, "24: thing(5, " + i + ")", x.thing(5, i), due[i]);
        }
        Checks.no(x, "24: a ninth", x.make(1, 1, 1), 4);
        Checks.no(x, "24: a ninth that can't be", x.make(1, 1, 0), 1);
        Checks.ok(x, "13: all ashore", x.told(9), 255);
        Checks.no(x, "25: cell 4", x.build(4, 0), 1);
        Checks.no(x, "25: cell -1", x.build(-1, 0), 1);
        Checks.no(x, "25: kind 3", x.build(0, 3), 1);
        Checks.no(x, "25: kind -1", x.build(0, -1), 1);
        for (int i = 1; i < 4; i++) {
            Checks.ok(x, "25: mill " + i, x.build(i, i - 1), i);
            Checks.ok(x, "25: its cell", x.mill(i, 0), i);
            Checks.ok(x, "25: its kind", x.mill(i, 1), i - 1);
            Checks.ok(x, "25: nothing ground", x.mill(i, 2), 0);
        }
        Checks.no(x, "25: a fifth", x.build(0, 0), 4);
        Checks.no(x, "25: a fifth that can't be", x.build(4, 0), 1);
    }

    private static void lastHours() {
        ForgetStream x = Checks.with("long 3;thing a weighs 1 grips 24 minds 24;");
        for (int i = 0; i < 59; i++) {
            x.hour(168);
        }
        Checks.ok(x, "19: up to 9,998", x.hour(86), 0);
        x.toss(0, 0);
        Checks.no(x, "19: two are too many", x.hour(2), 4);
        Checks.no(x, "19: 169 can't be", x.hour(169), 1);
        Checks.ok(x, "29: the last hour does not matter", x.homeIn(0), 30);
        Checks.ok(x, "19: one is not", x.hour(1), 0);
        Checks.ok(x, "13: 9,999", x.told(5), 9999);
        Checks.no(x, "19: none more", x.hour(1), 4);
        Checks.ok(x, "13: 9,999 still", x.told(5), 9999);
    }

    private static void willBe() {
        ForgetStream x = Checks.with(BACK);
        int[] at = {2, 3, 3, 2, 1, 0, 0, 1, 2, 3, 3};
        int[] turns = {0, 0, 1, 1, 1, 1, 2, 2, 2, 2, 2};
        for (int i = 0; i < at.length; i++) {
            Checks.ok(x, "27: in " + i, x.atIn(i), at[i]);
            Checks.ok(x, "28: in " + i, x.carriedIn(i), i >= 5 && i <= 8 ? 1 : 0);
            Checks.ok(x, "30: in " + i, x.turnsIn(i), turns[i]);
            Checks.ok(x, "32: in " + i, x.groundIn(2, i), i < 4 ? 0 : i < 7 ? 1 : 2);
        }
        Checks.ok(x, "27: in 400", x.atIn(400), 3);
        Checks.ok(x, "28: in 400", x.carriedIn(400), 0);
        Checks.ok(x, "30: in 400", x.turnsIn(400), 2);
        Checks.ok(x, "29: home", x.homeIn(0), 9);
        Checks.ok(x, "31: the next turn", x.turnIn(), 1);
        Checks.ok(x, "33: quiet", x.quietIn(), 9);
        Checks.ok(x, "13: nothing has been", x.told(5), 0);
        x.hour(3);
        Checks.ok(x, "30: from now on", x.turnsIn(3), 1);
        Checks.ok(x, "31: from now on", x.turnIn(), 2);
        Checks.ok(x, "32: from now on", x.groundIn(1, 400), 1);
        x.hour(6);
        Checks.ok(x, "29: home now", x.homeIn(0), 0);
        Checks.ok(x, "33: quiet now", x.quietIn(), 0);
        Checks.no(x, "31: no turn", x.turnIn(), 6);
        Checks.ok(x, "34: nothing changes", x.ring(), 1);
        x.toss(0, 3);
        x.mind(0, 24);
        Checks.ok(x, "33: in the 25th hour", x.quietIn(), 25);
        Checks.ok(x, "29: in the 25th hour", x.homeIn(0), 25);
        x.fetch(0);
        Checks.no(x, "29: ashore", x.homeIn(0), 6);
        Checks.ok(x, "33: ashore", x.quietIn(), 0);
    }

    /** How many hours till a is home, counted hour by hour behind the first 400. */
    private static int homeBy(String glen) {
        ForgetStream x = Checks.with(glen);
        x.hour(160);
        x.hour(160);
        x.hour(80);
        Checks.ok(x, "13: a is not home yet", x.told(12), 0);
        for (int i = 401; i < 600; i++) {
            x.hour(1);
            if (x.told(12) == 1) {
                return i;
            }
        }
        return 600;
    }

    /** From 400 hours ahead of home it is seen, from one more it is not; so is a ring from 200. */
    private static void farAhead() {
        String glen = "long 14;load 1;thing a weighs 1 grips 3 minds 23 lies 0;";
        int home = homeBy(glen);
        ForgetStream x = Checks.with(glen);
        x.hour(home - 401);
        Checks.no(x, "29: home in 401", x.homeIn(0), 6);
        Checks.no(x, "33: quiet in 401", x.quietIn(), 6);
        x.hour(1);
        Checks.ok(x, "29: home in 400", x.homeIn(0), 400);
        Checks.ok(x, "33: quiet in 400", x.quietIn(), 400);
        x.hour(160);
        x.hour(40);
        Checks.no(x, "34: the same only behind 201", x.ring(), 6);
        x.hour(1);
        Checks.ok(x, "34: the same behind 200", x.ring(), 1);
    }

    private static void goesRound() {
        ForgetStream x = Checks.with(ROUND);
        Checks.ok(x, "34: ring", x.ring(), 5);
        Checks.ok(x, "31: turn", x.turnIn(), 3);
        Checks.ok(x, "30: turns", x.turnsIn(7), 2);
        Checks.no(x, "33: never quiet", x.quietIn(), 6);
        Checks.no(x, "29: never home", x.homeIn(0), 6);
        x.hour(2);
        Checks.ok(x, "34: within it", x.ring(), 5);
        Checks.ok(x, "30: 80 rounds", x.turnsIn(400), 160);
        // the hours lain are part of what must be the same: three things of unlike minds go round for long
        ForgetStream y = Checks.with("long 16;load 1;thing a weighs 1 grips 1 minds 7 lies 0;"
                + "thing b weighs 1 grips 2 minds 11 lies 6;thing c weighs 1 grips 3 minds 13 lies 12;");
        int ring = y.ring();
        if (y.status() == 0) {
            y.hour(168);
            y.hour(32);
            int at = y.told(6);
            y.hour(ring);
            Checks.ok(y, "34: where it was a ring ago", y.told(6), at);
        }
    }
}
