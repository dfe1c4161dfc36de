/** Promises 3, 4, 35 to 51: what to throw, what was seen, loads, boats, games, fractions. */
public final class SearchTest {
    public static void main(String[] args) {
        aims();
        soonest();
        drives();
        minds();
        wrongMinds();
        heaviest();
        rides();
        games();
        gamesOfTwo();
        shares();
        rains();
        copies();
        Checks.end();
    }

    private static void aims() {
        ForgetStream x = Checks.with("long 4;stream 3;thing a weighs 1 grips 24 minds 2;");
        Checks.ok(x, "35: the least cell", x.aim(0, 2), 0);
        Checks.no(x, "35: none in 1", x.aim(0, 1), 6);
        Checks.no(x, "35: not the first turn", x.aim(0, 6), 6);
        ForgetStream y = Checks.with("long 4;stream 3 up;thing a weighs 1 grips 24 minds 2;");
        Checks.no(y, "35: no turn when it comes to mind", y.aim(0, 2), 6);
        Checks.ok(y, "35: behind a cell", y.aim(0, 3), 2);
        Checks.ok(y, "35: behind two", y.aim(0, 4), 1);
        Checks.ok(y, "35: behind three", y.aim(0, 5), 0);
        Checks.no(y, "35: hour -1", y.aim(0, -1), 1);
        Checks.no(y, "35: hour 61", y.aim(0, 61), 1);
        Checks.no(y, "35: hour 60", y.aim(0, 60), 6);
        Checks.no(y, "35: thing 1", y.aim(1, 0), 1);
        Checks.ok(y, "14: ashore still", y.thing(0, 3), 0);
        y.toss(0, 3);
        Checks.no(y, "35: it lies", y.aim(0, 3), 7);
        Checks.no(y, "35: it lies, and 61", y.aim(0, 61), 1);
        y.hour(3);
        Checks.ok(y, "14: home", y.thing(0, 3), 3);
        Checks.ok(y, "35: from home", y.aim(0, 3), 2);
        // another one makes it turn ahead
        ForgetStream z = Checks.with("long 4;stream 3;thing a weighs 1 grips 24 minds 2;thing b weighs 1 grips 24 minds 1 lies 0;");
        Checks.no(z, "35: turned already", z.aim(0, 2), 6);
        Checks.ok(z, "35: by any cell", z.aim(0, 1), 0);
        z.hour(1);
        Checks.ok(z, "35: in the hour that comes", z.aim(0, 0), 0);
    }

    private static void soonest() {
        ForgetStream x = Checks.with("long 4;thing a weighs 1 grips 24 minds 1;thing b weighs 9 grips 1 minds 2;load 5;");
        Checks.ok(x, "36: of several the least", x.soonest(0), 2);
        Checks.ok(x, "37: in three hours", x.soonestIn(0), 3);
        Checks.no(x, "36: too heavy", x.soonest(1), 6);
        Checks.no(x, "37: too heavy", x.soonestIn(1), 6);
        Checks.no(x, "36: thing 2", x.soonest(2), 1);
        Checks.no(x, "37: thing -1", x.soonestIn(-1), 1);
        x.rule(3, 9);
        Checks.ok(x, "36: gripped for an hour alone: the sea", x.soonest(1), 3);
        Checks.ok(x, "37: as it gets there", x.soonestIn(1), 3);
        x.hour(9);
        Checks.ok(x, "36: in the sea", x.soonest(0), 3);
        Checks.ok(x, "37: when it comes to mind", x.soonestIn(0), 2);
        x.toss(0, 3);
        Checks.no(x, "36: it lies", x.soonest(0), 7);
        x.hour(2);
        Checks.ok(x, "37: it is home, and must be so again", x.soonestIn(0), 2);
        x.toss(0, 0);
        x.hour(7);
        Checks.ok(x, "14: carried", x.thing(0, 3), 2);
        Checks.no(x, "37: it is carried", x.soonestIn(0), 7);
        Checks.ok(x, "14: nothing thrown", x.thing(1, 3), 0);
        // b goes up to a and down again: beside a it is home as soon as in the sea
        ForgetStream y = Checks.with("long 4;stream 3;thing a weighs 1 grips 24 minds 1 lies 0;thing b weighs 1 grips 24 minds 4;");
        Checks.ok(y, "36: cell 0, too", y.soonest(1), 0);
        Checks.ok(y, "37: with a", y.soonestIn(1), 9);
    }

    private static void drives() {
        ForgetStream x = Checks.with("long 3;stream 2;thing a weighs 1 grips 24 minds 1;thing b weighs 1 grips 24 minds 1;"
                + "thing c weighs 1 grips 24 minds 5;mill u at 1 up;mill d at 1 down;");
        drive(x, 0, 0, 1, 0, 0, 0, 0);
        drive(x, 0, 0, 1, 2, 0, 0, 0);
        drive(x, 0, 0, 1, 3, 1, 0, 0);
        drive(x, 1, 0, 1, 6, 1, 0, 0);
        // a at 1 is home in hour 5, c comes to mind then, and leads up once more by hour 7
        drive(x, 0, 0, 2, 7, 2, 1, 0);
        drive(x, 0, 2, 0, 7, 2, 0, 1);
        Checks.no(x, "38: one twice", x.drive(0, 1, 1, 3), 1);
        Checks.no(x, "38: mill 2", x.drive(2, 0, 1, 3), 1);
        Checks.no(x, "38: thing 3", x.drive(0, 3, 1, 3), 1);
        Checks.no(x, "38: other -1", x.drive(0, 0, -1, 3), 1);
        Checks.no(x, "38: hours 49", x.drive(0, 0, 1, 49), 1);
        Checks.no(x, "38: hours -1", x.drive(0, 0, 1, -1), 1);
        Checks.no(x, "39: what 2", x.driveCell(0, 0, 1, 3, 2), 1);
        Checks.no(x, "39: what -1", x.driveCell(0, 0, 1, 3, -1), 1);
        Checks.no(x, "39: one twice", x.driveCell(0, 0, 0, 3, 0), 1);
        x.toss(1, 2);
        Checks.no(x, "38: the other lies", x.drive(0, 0, 1, 3), 7);
        Checks.no(x, "38: the first lies", x.drive(0, 1, 0, 3), 7);
        Checks.no(x, "39: it lies", x.driveCell(0, 0, 1, 3, 0), 7);
        Checks.no(x, "39: it lies, what 2", x.driveCell(0, 0, 1, 3, 2), 1);
    }

    private static void drive(ForgetStream x, int mill, int thing, int other, int hours, int due, int first, int second) {
        String what = "38: drive(" + mill + ", " + thing + ", " + other + ", " + hours + ")";
        Checks.ok(x, what, x.drive(mill, thing, other, hours), due);
        Checks.ok(x, what + " 39: first", x.driveCell(mill, thing, other, hours, 0), first);
        Checks.ok(x, what + " 39: second", x.driveCell(mill, thing, other, hours, 1), second);
    }

    /** It turns behind as many hours as its mind, and behind four more. */
    private static ForgetStream minding() {
        ForgetStream x = Checks.with("long 4;stream 3;thing a weighs 1 grips 24 minds 2 lies 0;");
        x.tray(1, 0, 6);
        return x;
    }

    private static void minds() {
        ForgetStream x = minding();
        Checks.ok(x, "40: nothing seen", x.minded(0, 1, 0), 24);
        Checks.ok(x, "41: least", x.mindedAt(0, 1, 0, 0), 1);
        Checks.ok(x, "41: greatest", x.mindedAt(0, 1, 0, 1), 24);
        Checks.ok(x, "42: two of 24", x.ask(0, 1, 0), 5);
        x.write(1, 0, 5);
        x.write(1, 1, 1);
        Checks.ok(x, "40: 1 and 5", x.minded(0, 1, 1), 2);
        Checks.ok(x, "41: 1", x.mindedAt(0, 1, 1, 0), 1);
        Checks.ok(x, "41: 5", x.mindedAt(0, 1, 1, 1), 5);
        Checks.ok(x, "42: the first that parts them", x.ask(0, 1, 1), 1);
        x.write(1, 2, 9);
        x.write(1, 3, 0);
        Checks.ok(x, "40: 1 alone", x.minded(0, 1, 2), 1);
        Checks.ok(x, "41: 1 alone", x.mindedAt(0, 1, 2, 1), 1);
        Checks.no(x, "42: fewer than two", x.ask(0, 1, 2), 6);
        x.write(1, 4, 60);
        x.write(1, 5, 1);
        Checks.ok(x, "40: none", x.minded(0, 1, 3), 0);
        Checks.no(x, "41: none", x.mindedAt(0, 1, 3, 0), 6);
        Checks.no(x, "42: none", x.ask(0, 1, 3), 6);
        Checks.ok(x, "14: its own mind stays", x.thing(0, 2), 2);
        x.tray(2, 3, 40);
        for (int i = 0; i < 20; i++) {
            x.write(2, 2 * i, 24);
        }
        Checks.ok(x, "40: not in 24: neither 24 nor 20", x.minded(0, 2, 20), 22);
        Checks.ok(x, "41: 23", x.mindedAt(0, 2, 20, 1), 23);
        x.write(1, 0, 24);
        x.write(1, 1, 1);
        x.write(1, 2, 20);
        x.write(1, 3, 0);
        Checks.ok(x, "41: 24 alone, the least", x.mindedAt(0, 1, 2, 0), 24);
        Checks.ok(x, "41: 24 alone, the greatest", x.mindedAt(0, 1, 2, 1), 24);
        x.fetch(0);
        Checks.ok(x, "42: no hour parts them: the first", x.ask(0, 1, 0), 0);
        mindsByTheLastHour();
    }

    /** It goes round for ever, with turns in the last hour that can be asked for, too. */
    private static void mindsByTheLastHour() {
        ForgetStream x = Checks.with("long 3;thing a weighs 1 grips 1 minds 1 lies 1;");
        int due = 0;
        for (int mind = 1; mind <= 24; mind++) {
            x.mind(0, mind);
            due += x.turnsIn(61) - x.turnsIn(60);
        }
        x.tray(0, 0, 2);
        x.write(0, 0, 60);
        Checks.ok(x, "40: no turn in 60", x.minded(0, 0, 1), 24 - due);
        x.write(0, 1, 1);
        Checks.ok(x, "40: a turn in 60", x.minded(0, 0, 1), due);
        Checks.ok(x, "41: mind 1", x.mindedAt(0, 0, 1, 0), 1);
    }

    private static void wrongMinds() {
        ForgetStream x = minding();
        Checks.no(x, "40: thing 1", x.minded(1, 1, 0), 1);
        Checks.no(x, "40: tray 4", x.minded(0, 4, 0), 1);
        Checks.no(x, "40: n -1", x.minded(0, 1, -1), 1);
        Checks.no(x, "40: n 21", x.minded(0, 1, 21), 1);
        Checks.no(x, "40: n 21, missing", x.minded(0, 0, 21), 1);
        Checks.no(x, "40: missing", x.minded(0, 0, 0), 2);
        Checks.no(x, "40: too few", x.minded(0, 1, 4), 3);
        Checks.no(x, "41: what 2", x.mindedAt(0, 0, 0, 2), 1);
        Checks.no(x, "41: what -1", x.mindedAt(0, 1, 0, -1), 1);
        Checks.no(x, "41: missing", x.mindedAt(0, 0, 0, 0), 2);
        Checks.no(x, "41: too few", x.mindedAt(0, 1, 4, 0), 3);
        Checks.no(x, "42: thing -1", x.ask(-1, 1, 0), 1);
        Checks.no(x, "42: missing", x.ask(0, 3, 0), 2);
        Checks.no(x, "42: too few", x.ask(0, 1, 20), 3);
        x.write(1, 4, 61);
        Checks.ok(x, "40: what is behind n does not matter", x.minded(0, 1, 2), 24);
        Checks.no(x, "40: too few ahead of 61", x.minded(0, 1, 4), 3);
        Checks.no(x, "40: 61", x.minded(0, 1, 3), 5);
        Checks.no(x, "41: 61", x.mindedAt(0, 1, 3, 0), 5);
        Checks.no(x, "42: 61", x.ask(0, 1, 3), 5);
        x.write(1, 4, -1);
        Checks.no(x, "40: -1", x.minded(0, 1, 3), 5);
        x.write(1, 4, 60);
        Checks.ok(x, "40: 60", x.minded(0, 1, 3), 24);
        x.write(1, 5, 2);
        Checks.no(x, "40: turned 2", x.minded(0, 1, 3), 5);
        x.write(1, 5, -1);
        Checks.no(x, "40: turned -1", x.minded(0, 1, 3), 5);
    }

    private static void heaviest() {
        ForgetStream x = Checks.with("load 7;thing a weighs 3 grips 9 minds 9 lies 1;thing b weighs 4 grips 9 minds 9 lies 2;"
                + "thing c weighs 2 grips 9 minds 9 lies 3;thing d weighs 5 grips 9 minds 9;thing e weighs 0 grips 9 minds 9 lies 0;");
        load(x, 7, 3, 7);
        load(x, 6, 6, 6);
        load(x, 5, 5, 5);
        load(x, 4, 2, 4);
        load(x, 1, 0, 0);
        load(x, 40, 7, 9);
        x.toss(3, 0);
        load(x, 5, 8, 5);
        load(x, 7, 3, 7);
        x.fetch(1);
        load(x, 7, 12, 7);
        // d and c, or b and a: of as many the least as a number
        x.toss(1, 0);
        load(x, 7, 3, 7);
        // beside what is carried
        ForgetStream y = Checks.with("load 7;thing a weighs 3 grips 24 minds 1 lies 1;thing b weighs 4 grips 9 minds 9 lies 2;"
                + "thing c weighs 2 grips 9 minds 9 lies 3;");
        y.hour(2);
        Checks.ok(y, "14: a is carried", y.told(11), 1);
        load(y, 7, 2, 4);
        load(y, 6, 4, 2);
        load(y, 4, 0, 0);
        load(y, 2, 0, 0);
    }

    private static void load(ForgetStream x, int load, int set, int weight) {
        x.rule(3, load);
        Checks.ok(x, "43: load " + load, x.heaviest(), set);
        Checks.ok(x, "44: load " + load, x.heaviestWeight(), weight);
    }

    private static void rides() {
        // in hours: 3 turns 2 1 0 turns 1 2 3
        ForgetStream x = Checks.with("long 4;stream 2;thing a weighs 1 grips 24 minds 1 lies 0;");
        int[][] due = {{2, 2, 0, 0}, {2, 3, 1, 0}, {2, 0, 5, 0}, {2, 1, 4, 0}, {3, 2, 3, 1}, {0, 3, 9, 5}, {1, 1, 4, 4},
            {1, 2, 8, 4}, {0, 0, 5, 5}, {3, 3, 1, 1}, {1, 3, 9, 4}};
        for (int[] d : due) {
            Checks.ok(x, "45: ride(" + d[0] + ", " + d[1] + ")", x.ride(d[0], d[1]), d[2]);
            Checks.ok(x, "46: waits(" + d[0] + ", " + d[1] + ")", x.waits(d[0], d[1]), d[3]);
        }
        x.hour(9);
        Checks.no(x, "45: never there", x.ride(0, 3), 6);
        Checks.no(x, "46: never there", x.waits(0, 3), 6);
        Checks.no(x, "45: there, but not away", x.ride(3, 0), 6);
        Checks.no(x, "46: there, but not away", x.waits(3, 0), 6);
        Checks.no(x, "45: cell 4", x.ride(4, 0), 1);
        Checks.no(x, "45: other -1", x.ride(0, -1), 1);
        Checks.no(x, "46: cell -1", x.waits(-1, 0), 1);
        Checks.no(x, "46: other 4", x.waits(0, 4), 1);
    }

    private static final String MILLS = "mill u at 1 up;mill d at 1 down;";
    private static final String FARMS = "long 3;stream 2;thing a weighs 1 grips 24 minds 1;";

    private static void game(ForgetStream x, int mill, int other, int turns, int due, int thing, int cell) {
        String what = "47: game(" + mill + ", " + other + ", " + turns + ")";
        Checks.ok(x, what, x.game(mill, other, turns), due);
        if (thing < 0) {
            Checks.no(x, what + " 48: none", x.moveOf(mill, other, turns, 0), 6);
            Checks.no(x, what + " 48: none", x.moveOf(mill, other, turns, 1), 6);
        } else {
            Checks.ok(x, what + " 48: thing", x.moveOf(mill, other, turns, 0), thing);
            Checks.ok(x, what + " 48: cell", x.moveOf(mill, other, turns, 1), cell);
        }
    }

    private static void games() {
        ForgetStream x = Checks.with(FARMS + MILLS);
        Checks.ok(x, "47: no turns", x.game(0, 1, 0), 0);
        game(x, 0, 1, 1, 1, 0, 1);
        game(x, 1, 0, 1, 0, 0, 0);
        Checks.no(x, "47: one mill twice", x.game(1, 1, 1), 1);
        Checks.no(x, "47: mill 2", x.game(2, 1, 1), 1);
        Checks.no(x, "47: other 2", x.game(0, 2, 1), 1);
        Checks.no(x, "47: turns 3", x.game(0, 1, 3), 1);
        Checks.no(x, "47: turns -1", x.game(0, 1, -1), 1);
        Checks.no(x, "48: turns 0", x.moveOf(0, 1, 0, 0), 1);
        Checks.no(x, "48: turns 3", x.moveOf(0, 1, 3, 0), 1);
        Checks.no(x, "48: what 2", x.moveOf(0, 1, 1, 2), 1);
        Checks.no(x, "48: what -1", x.moveOf(0, 1, 1, -1), 1);
        Checks.no(x, "48: one mill twice", x.moveOf(0, 0, 1, 0), 1);
        Checks.ok(x, "14: nothing was thrown", x.thing(0, 3), 0);
        Checks.ok(x, "16: nothing was ground", x.mill(0, 2), 0);
        // nothing can be thrown: it can be below 0
        ForgetStream y = Checks.with("long 3;stream 2;thing a weighs 1 grips 24 minds 1 lies 1;" + MILLS);
        game(y, 1, 0, 1, -1, -1, -1);
        game(y, 0, 1, 1, 1, -1, -1);
        // whatever stands in the way of the sea, which it reaches else, is worse; none comes last
        ForgetStream z = Checks.with("long 5;stream 0;load 1;thing a weighs 9 grips 24 minds 1;mill e at 4 down;mill n at 0 up;");
        game(z, 0, 1, 1, 1, 0, 4);
    }

    private static void gamesOfTwo() {
        ForgetStream x = Checks.with(FARMS + MILLS);
        game(x, 0, 1, 2, 1, 0, 1);
        game(x, 1, 0, 2, 0, 0, 0);
        // a second thing, which comes to mind too late in any turn
        ForgetStream y = Checks.with(FARMS + "thing z weighs 1 grips 24 minds 6;" + MILLS);
        Checks.ok(y, "47: as without it", y.game(0, 1, 1), 1);
        // the first throws it in turn 1, it comes to mind in turn 2
        ForgetStream z = Checks.with("long 3;stream 2;thing z weighs 1 grips 24 minds 6;" + MILLS);
        game(z, 0, 1, 1, 0, 0, 0);
        game(z, 0, 1, 2, 1, 0, 1);
        // whatever the first does, the second leads it up to its mill in cell 0
        ForgetStream v = Checks.with(FARMS + "mill p at 2 up;mill q at 0 up;");
        game(v, 0, 1, 2, -1, 0, 0);
        // a goes round by itself up to the first's mill, b could only help the second: none is best
        ForgetStream w = Checks.with("long 2;load 1;stream 1 up;thing a weighs 1 grips 1 minds 1 lies 0;"
                + "thing b weighs 1 grips 7 minds 4;mill m at 0 up;mill n at 0 down;");
        w.hour(1);
        game(w, 0, 1, 2, 3, -1, -1);
    }

    private static void shares() {
        ForgetStream x = Checks.with("long 9;mill a at 1 down;mill b at 2 both;mill c at 2 down;mill d at 5 up;");
        Checks.no(x, "49: nothing was", x.share(0), 6);
        Checks.fraction(x, "3: 0 by 1", 0, 1);
        Checks.no(x, "49: mill 4", x.share(4), 1);
        Checks.no(x, "49: mill -1", x.share(-1), 1);
        x.hour(1);
        Checks.ok(x, "49: all", x.share(0));
        Checks.fraction(x, "3, 4: 1 by 1", 1, 1);
        Checks.ok(x, "49: nothing of it", x.share(3));
        Checks.fraction(x, "3, 4: 0 by 1", 0, 1);
        x.hour(9);
        Checks.ok(x, "49: a third", x.share(1));
        Checks.fraction(x, "3, 4: 1 by 3", 1, 3);
        x.share(9);
        Checks.fraction(x, "3, 4: it stays", 1, 3);
    }

    private static void rain(ForgetStream x, int odds, int n, int k, long top, long bottom) {
        x.rule(4, odds);
        Checks.ok(x, "50: rain(" + n + ", " + k + ")", x.rain(n, k));
        Checks.fraction(x, "50: odds " + odds + ", rain(" + n + ", " + k + ")", top, bottom);
    }

    private static void rains() {
        ForgetStream x = new ForgetStream();
        rain(x, 4, 2, 1, 7, 16);
        rain(x, 4, 3, 2, 5, 32);
        rain(x, 1, 12, 12, 1, 281474976710656L);
        rain(x, 1, 12, 1, 281474976710656L - 129746337890625L, 281474976710656L);
        rain(x, 16, 12, 12, 1, 1);
        rain(x, 16, 11, 12, 0, 1);
        rain(x, 0, 3, 0, 1, 1);
        rain(x, 0, 3, 1, 0, 1);
        rain(x, 8, 12, 0, 1, 1);
        rain(x, 8, 12, 6, 1255, 2048);
        rain(x, 7, 0, 0, 1, 1);
        rain(x, 7, 0, 1, 0, 1);
        rain(x, 7, 1, 1, 7, 16);
        Checks.no(x, "50: n 13", x.rain(13, 1), 1);
        Checks.no(x, "50: n -1", x.rain(-1, 0), 1);
        Checks.no(x, "50: k 13", x.rain(12, 13), 1);
        Checks.no(x, "50: k -1", x.rain(1, -1), 1);
        Checks.fraction(x, "50: it stays", 7, 16);
    }

    private static void copies() {
        ForgetStream x = Checks.with("long 4;load 1;thing a weighs 1 grips 24 minds 1 lies 1;thing b weighs 2 grips 9 minds 9 lies 2;"
                + "thing c weighs 1 grips 1 minds 1;");
        x.hour(2);
        Checks.no(x, "51: tray 4", x.copyHours(4), 1);
        Checks.no(x, "51: missing", x.copyHours(0), 2);
        x.tray(0, 0, 2);
        Checks.no(x, "51: too few", x.copyHours(0), 3);
        Checks.due("51: nothing came", x.read(0, 1), 0);
        for (int sort = 0; sort < 4; sort++) {
            x.tray(sort, sort, 4);
            x.write(sort, 2, 77);
            x.write(sort, 3, 77);
            Checks.ok(x, "51: three things", x.copyHours(sort), 3);
            long[] due = {1, 2, 0, 77};
            for (int i = 0; i < due.length; i++) {
                Checks.ok(x, "51: place " + i, x.read(sort, i), due[i]);
            }
        }
        x.tray(0, 0, 3);
        x.hour(168);
        Checks.ok(x, "51: as many places as things", x.copyHours(0), 3);
        Checks.ok(x, "51: 99 hours", x.read(0, 1), 99);
    }
}
