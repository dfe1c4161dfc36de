/** What happens in an hour, step by step, at its ends: "==== 2.", promises 13 to 26. */
public final class EdgesOfHoursTest {
    public static void main(String[] args) {
        rememberedByItsMind();
        rememberedByTheGreatestMind();
        rememberedIfItLiesAlone();
        goalIsTheSea();
        goalHasLainTheLongest();
        goalOfSeveralIsTheFirst();
        goalThatHasLainNinetyNine();
        goalIsRemembered();
        standsInItsGoal();
        turnsOnTheSpot();
        millsByTheWayItRuns();
        millsWhereItComesAlone();
        loadToTheLast();
        loadByNumbers();
        loadWithNothingMore();
        loadBelowWhatIsCarried();
        takenWhereTheStreamIs();
        homeInTheHourItGetsThere();
        homeInTheHourItIsTaken();
        homeAheadOfSlipping();
        homeAllTogether();
        gripOfOneHour();
        gripOfTwoHours();
        gripOfTwentyFourHours();
        slippedForZeroHours();
        lainForNinetyNine();
        hoursOfTheOthers();
        oneHourAndHundredSixtyEight();
        turnsInHours();
        thrown();
        fetched();
        gripFromNowOn();
        gripThatIsOver();
        gripThatIsOverInTheSea();
        mindFromNowOn();
        made();
        built();
        loadFromNowOn();
        oddsFromNowOn();
        setsOfEight();
        fiveHundredAndTwelveCalls();
        Checks.end();
    }

    private static void told(ForgetStream x, String what, int number, int due) {
        Checks.ok(x, what, x.told(number), due);
    }

    /** "REMEMBERED is one that has LAIN as many HOURS as its MIND, or more." */
    private static void rememberedByItsMind() {
        ForgetStream x = Checks.with("long 4;stream 3;thing a weighs 1 grips 9 minds 3 lies 1;");
        int[] remembered = {0, 0, 1, 1, 1};
        int[] goal = {3, 3, 1, 1, 1};
        int[] turns = {0, 0, 0, 1, 0};
        told(x, "13: not at first", 13, 0);
        for (int i = 0; i < remembered.length; i++) {
            Checks.ok(x, "19: turns in hour " + (i + 1), x.hour(1), turns[i]);
            told(x, "13: remembered behind " + (i + 1), 13, remembered[i]);
            Checks.ok(x, "17: goal behind " + (i + 1), x.goal(), goal[i]);
        }
        ForgetStream y = Checks.with("long 4;stream 3;thing a weighs 1 grips 9 minds 1 lies 1;");
        Checks.ok(y, "19: the least mind", y.hour(1), 0);
        told(y, "13: by mind 1 behind an hour", 13, 1);
    }

    private static void rememberedByTheGreatestMind() {
        ForgetStream x = Checks.with("long 4;stream 3;thing a weighs 1 grips 9 minds 24 lies 1;");
        Checks.ok(x, "31: it turns in the 25th hour", x.turnIn(), 24);
        x.hour(23);
        told(x, "13: not behind 23", 13, 0);
        Checks.no(x, "18: none", x.goalThing(), 6);
        x.hour(1);
        told(x, "13: behind 24", 13, 1);
        Checks.ok(x, "18: the thing", x.goalThing(), 0);
    }

    private static void rememberedIfItLiesAlone() {
        ForgetStream x = House.full();
        x.mind(House.CARRIED, 1);
        x.mind(House.HOME, 1);
        x.mind(House.ASHORE, 1);
        told(x, "13: nothing that is carried, home, ashore", 13, 0);
        Checks.ok(x, "17: the sea", x.goal(), 4);
        x.mind(House.LIES, 7);
        told(x, "13: what lies, behind seven hours", 13, 1 << House.LIES);
        x.mind(House.LIES, 8);
        told(x, "13: not behind seven by mind 8", 13, 0);
    }

    /** "the SEA, if there is none" */
    private static void goalIsTheSea() {
        ForgetStream x = new ForgetStream();
        Checks.ok(x, "17: the sea without things", x.goal(), 7);
        Checks.no(x, "18: none", x.goalThing(), 6);
        ForgetStream y = Checks.with("long 2;thing a weighs 1 grips 1 minds 1;");
        Checks.ok(y, "17: the sea of two cells", y.goal(), 1);
        // what lies in the sea is a goal like others
        ForgetStream z = Checks.with("long 2;load 1;thing a weighs 2 grips 1 minds 1 lies 1;");
        z.hour(3);
        Checks.ok(z, "17: the sea", z.goal(), 1);
        Checks.ok(z, "18: by the thing in it", z.goalThing(), 0);
    }

    /** "the CELL of the THING that is REMEMBERED and has LAIN the longest" */
    private static void goalHasLainTheLongest() {
        ForgetStream x = Checks.with("long 9;load 1;thing a weighs 2 grips 1 minds 1;thing b weighs 2 grips 1 minds 1 lies 5;");
        x.hour(1);
        x.toss(0, 2);
        x.hour(1);
        told(x, "13: both", 13, 3);
        Checks.ok(x, "18: b has lain an hour more", x.goalThing(), 1);
        Checks.ok(x, "17: its cell", x.goal(), 5);
    }

    /** "of several of the first" */
    private static void goalOfSeveralIsTheFirst() {
        ForgetStream x = Checks.with("long 9;load 1;thing a weighs 2 grips 1 minds 2;thing b weighs 2 grips 1 minds 1 lies 5;"
                + "thing c weighs 2 grips 1 minds 1 lies 3;");
        x.toss(0, 7);
        x.hour(1);
        Checks.ok(x, "18: a is not remembered yet", x.goalThing(), 1);
        x.hour(1);
        Checks.ok(x, "18: a, b, c have lain two hours", x.goalThing(), 0);
        Checks.ok(x, "17: its cell", x.goal(), 7);
    }

    /** "99 at most": then those that lay down later are as good, and the first of them is it. */
    private static void goalThatHasLainNinetyNine() {
        ForgetStream x = Checks.with("long 9;load 1;thing a weighs 2 grips 1 minds 1;thing b weighs 2 grips 1 minds 1 lies 5;");
        x.hour(1);
        x.toss(0, 2);
        x.hour(98);
        Checks.ok(x, "14: b has lain 99 hours", x.thing(1, 4), 99);
        Checks.ok(x, "14: a has lain 98 hours", x.thing(0, 4), 98);
        Checks.ok(x, "18: b", x.goalThing(), 1);
        x.hour(1);
        Checks.ok(x, "14: b has lain 99 hours still", x.thing(1, 4), 99);
        Checks.ok(x, "14: a has lain 99 hours", x.thing(0, 4), 99);
        Checks.ok(x, "18: a", x.goalThing(), 0);
        Checks.ok(x, "19: it turns for a", x.hour(1), 1);
    }

    private static void goalIsRemembered() {
        ForgetStream x = Checks.with("long 9;load 1;thing a weighs 2 grips 1 minds 9 lies 2;thing b weighs 2 grips 1 minds 2;");
        x.hour(3);
        x.toss(1, 5);
        x.hour(2);
        Checks.ok(x, "14: a has lain longer", x.thing(0, 4), 5);
        Checks.ok(x, "18: but b is remembered", x.goalThing(), 1);
        x.hour(4);
        Checks.ok(x, "18: then a is, too", x.goalThing(), 0);
    }

    /** "if the GOAL is another CELL than that where the STREAM is": else it stands, whichever way it runs. */
    private static void standsInItsGoal() {
        ForgetStream x = Checks.with("long 4;stream 3 up;mill m at 3 both;mill n at 2 both;");
        Checks.ok(x, "19: no turn", x.hour(5), 0);
        told(x, "13: it is in the sea", 6, 3);
        told(x, "13: it runs up still", 7, 0);
        told(x, "13: no turns", 8, 0);
        Checks.ok(x, "16: nothing was ground where it stands", x.mill(0, 2), 0);
        Checks.ok(x, "16: nor beside it", x.mill(1, 2), 0);
        Checks.no(x, "31: it never turns", x.turnIn(), 6);
    }

    /** "it TURNS (it stands where it is, and runs that way from then on)" */
    private static void turnsOnTheSpot() {
        ForgetStream x = Checks.with("long 4;stream 1 up;mill m at 1 both;mill n at 2 both;");
        Checks.ok(x, "19: it turns", x.hour(1), 1);
        told(x, "13: where it is", 6, 1);
        told(x, "13: it runs down", 7, 1);
        told(x, "13: a turn", 8, 1);
        Checks.ok(x, "16: nothing was ground in the hour it turned", x.mill(0, 2), 0);
        Checks.ok(x, "19: then it goes", x.hour(1), 0);
        told(x, "13: a cell nearer", 6, 2);
        Checks.ok(x, "16: ground where it came", x.mill(1, 2), 1);
        Checks.ok(x, "16: not where it left", x.mill(0, 2), 0);
    }

    /** "each MILL AT that CELL whose KIND is that way has GROUND once more" */
    private static void millsByTheWayItRuns() {
        ForgetStream x = Checks.with("long 3;stream 0;thing a weighs 9 grips 9 minds 2 lies 0;"
                + "mill u at 1 up;mill d at 1 down;mill b at 1 both;mill c at 1 both;");
        x.hour(1);
        ground(x, "down", 0, 1, 1, 1);
        x.hour(1);
        ground(x, "on to the sea", 0, 1, 1, 1);
        x.hour(1);
        ground(x, "it turns", 0, 1, 1, 1);
        x.hour(1);
        ground(x, "up", 1, 1, 2, 2);
    }

    private static void ground(ForgetStream x, String what, int... due) {
        for (int mill = 0; mill < due.length; mill++) {
            Checks.ok(x, "16: " + what + ", mill " + mill, x.mill(mill, 2), due[mill]);
        }
    }

    private static void millsWhereItComesAlone() {
        ForgetStream x = Checks.with("long 4;stream 0;mill a at 0 both;mill b at 1 both;mill c at 2 both;mill d at 3 both;");
        ground(x, "at first", 0, 0, 0, 0);
        x.hour(1);
        ground(x, "in 1", 0, 1, 0, 0);
        x.hour(1);
        ground(x, "in 2", 0, 1, 1, 0);
        x.hour(1);
        ground(x, "in the sea", 0, 1, 1, 1);
        x.hour(9);
        ground(x, "it stays there", 0, 1, 1, 1);
    }

    /** "is CARRIED .., if all CARRIED with it weigh no more than LOAD" */
    private static void loadToTheLast() {
        ForgetStream x = Checks.with("long 3;load 9;stream 1;thing a weighs 9 grips 9 minds 1 lies 1;");
        x.hour(4);
        told(x, "13: load 9 carries 9", 11, 1);
        ForgetStream y = Checks.with("long 3;load 8;stream 1;thing a weighs 9 grips 9 minds 1 lies 1;");
        y.hour(4);
        told(y, "13: load 8 does not", 11, 0);
        told(y, "13: it stands there", 6, 1);
        ForgetStream z = Checks.with("long 3;load 1;stream 1;thing a weighs 1 grips 9 minds 1 lies 1;");
        z.hour(4);
        told(z, "13: the least load carries 1", 11, 1);
        // five weigh 40, the sixth 0, the seventh 1
        StringBuilder s = new StringBuilder("long 9;load 40;stream 1;");
        int[] weights = {9, 9, 9, 9, 4, 0, 1};
        for (int i = 0; i < weights.length; i++) {
            s.append("thing ").append((char) ('a' + i)).append(" weighs ").append(weights[i]).append(" grips 24 minds 1 lies 1;");
        }
        ForgetStream w = Checks.with(s.toString());
        w.hour(4);
        told(w, "13: the greatest load", 14, 40);
        told(w, "13: all but that of 1", 11, 63);
        told(w, "13: which lies still", 10, 64);
    }

    /** "THING by THING, by numbers" */
    private static void loadByNumbers() {
        ForgetStream x = Checks.with("long 5;load 5;stream 1;thing a weighs 2 grips 9 minds 1 lies 1;"
                + "thing b weighs 4 grips 9 minds 1 lies 1;thing c weighs 3 grips 9 minds 1 lies 1;");
        x.hour(4);
        told(x, "13: a, not b beside it, c", 11, 5);
        told(x, "13: they weigh 5", 14, 5);
    }

    /** What weighs 0 is no more, when all is full. */
    private static void loadWithNothingMore() {
        ForgetStream x = Checks.with("long 5;load 5;stream 1;thing a weighs 5 grips 9 minds 1 lies 1;"
                + "thing b weighs 0 grips 9 minds 1 lies 1;thing c weighs 1 grips 9 minds 1 lies 1;");
        x.hour(4);
        told(x, "13: a and b", 11, 3);
        told(x, "13: they weigh 5", 14, 5);
    }

    /** In hours: 1 it is in 1, 2 a is taken, 3, 4, 5 in 4 where z has lain as long as its mind. */
    private static void loadBelowWhatIsCarried() {
        String glen = "long 6;load 5;thing a weighs 5 grips 24 minds 1 lies 1;thing z weighs 0 grips 24 minds 4 lies 4;";
        ForgetStream x = Checks.with(glen);
        x.hour(4);
        told(x, "13: a is carried", 11, 1);
        x.hour(1);
        told(x, "13: z, too", 11, 3);
        ForgetStream y = Checks.with(glen);
        y.hour(4);
        Checks.ok(y, "26: load 4", y.rule(3, 4));
        y.hour(2);
        told(y, "13: all weigh more than 4, with z, too", 11, 1);
        told(y, "13: a is carried still", 14, 5);
        told(y, "13: it stands where z lies", 6, 4);
        y.rule(3, 5);
        y.hour(1);
        told(y, "13: no more than 5", 11, 3);
    }

    /** "which LIES in its CELL and is REMEMBERED" */
    private static void takenWhereTheStreamIs() {
        // it runs by b, which comes to mind an hour later, to a
        ForgetStream x = Checks.with("long 6;thing a weighs 1 grips 24 minds 1 lies 3;thing b weighs 1 grips 24 minds 3 lies 2;");
        x.hour(2);
        told(x, "13: in 2, b has lain for two hours", 6, 2);
        told(x, "13: nothing is carried", 11, 0);
        x.hour(1);
        told(x, "13: a is carried", 11, 1);
        told(x, "13: b lies", 10, 2);
        Checks.ok(x, "15: where the stream is", x.cellOf(0), 3);
        Checks.ok(x, "15: where it lies", x.cellOf(1), 2);
    }

    /** "if the STREAM is in the SEA, all that is CARRIED is HOME" */
    private static void homeInTheHourItGetsThere() {
        ForgetStream x = Checks.with("long 3;stream 1;thing a weighs 1 grips 24 minds 1 lies 1;");
        // 1 in the sea, 2 turns, 3 in 1 (taken), 4 turns, 5 in the sea
        x.hour(4);
        told(x, "13: carried", 11, 1);
        Checks.ok(x, "14: for two hours", x.thing(0, 4), 2);
        x.hour(1);
        told(x, "13: home", 12, 1);
        told(x, "13: not carried", 11, 0);
        Checks.ok(x, "14: 3", x.thing(0, 3), 3);
        Checks.ok(x, "14: for no hours", x.thing(0, 4), 0);
        Checks.ok(x, "14: once", x.thing(0, 5), 1);
    }

    private static void homeInTheHourItIsTaken() {
        ForgetStream x = Checks.with("long 3;stream 2;thing a weighs 1 grips 24 minds 1 lies 2;");
        x.hour(1);
        told(x, "13: it lies in the sea", 10, 1);
        x.hour(1);
        told(x, "13: taken, home", 12, 1);
        Checks.ok(x, "14: once", x.thing(0, 5), 1);
    }

    private static void homeAheadOfSlipping() {
        ForgetStream x = Checks.with("long 3;stream 2;thing a weighs 1 grips 1 minds 1 lies 2;");
        x.hour(2);
        told(x, "13: home by grip 1", 12, 1);
        // taken in 1 running down, in the sea an hour later
        ForgetStream y = Checks.with("long 3;thing a weighs 1 grips 2 minds 1 lies 1;");
        y.hour(1);
        told(y, "13: in 1", 6, 1);
        y.hour(1);
        told(y, "13: taken", 11, 1);
        y.hour(1);
        told(y, "13: home by grip 2", 12, 1);
    }

    private static void homeAllTogether() {
        ForgetStream x = Checks.with("long 3;load 40;stream 2;thing a weighs 9 grips 1 minds 1 lies 2;"
                + "thing b weighs 0 grips 24 minds 1 lies 2;thing c weighs 9 grips 2 minds 2 lies 2;");
        x.hour(2);
        told(x, "13: a and b", 12, 3);
        told(x, "13: nothing is carried any more", 14, 0);
        x.hour(1);
        told(x, "13: c, too", 12, 7);
    }

    /** "which is so for its GRIP, or more, LIES where the STREAM is": in the hour it is taken by grip 1 */
    private static void gripOfOneHour() {
        ForgetStream x = Checks.with("long 5;thing a weighs 1 grips 1 minds 1 lies 1;");
        x.hour(2);
        told(x, "13: in 1", 6, 1);
        Checks.ok(x, "14: it lies", x.thing(0, 3), 1);
        Checks.ok(x, "14: for 0 hours, not for 2", x.thing(0, 4), 0);
        Checks.ok(x, "15: where the stream is", x.cellOf(0), 1);
        Checks.no(x, "29: it is never home", x.homeIn(0), 6);
    }

    private static void gripOfTwoHours() {
        ForgetStream x = Checks.with("long 5;thing a weighs 1 grips 2 minds 1 lies 1;");
        x.hour(2);
        Checks.ok(x, "14: it is carried", x.thing(0, 3), 2);
        Checks.ok(x, "14: for an hour", x.thing(0, 4), 1);
        x.hour(1);
        told(x, "13: in 2", 6, 2);
        Checks.ok(x, "14: it lies", x.thing(0, 3), 1);
        Checks.ok(x, "14: for 0 hours", x.thing(0, 4), 0);
        Checks.ok(x, "15: where the stream is", x.cellOf(0), 2);
    }

    /** b is too heavy beside a: the stream stands by it, and a, which is carried, slips behind 24 hours. */
    private static void gripOfTwentyFourHours() {
        ForgetStream x = Checks.with("long 5;load 9;thing a weighs 1 grips 24 minds 1 lies 1;thing b weighs 9 grips 24 minds 1 lies 1;");
        x.hour(2);
        told(x, "13: a is carried", 11, 1);
        x.hour(22);
        Checks.ok(x, "14: for 23 hours", x.thing(0, 4), 23);
        told(x, "13: it stands by b", 6, 1);
        x.hour(1);
        Checks.ok(x, "14: it lies", x.thing(0, 3), 1);
        Checks.ok(x, "15: where it was", x.cellOf(0), 1);
        x.hour(1);
        told(x, "13: b is taken then", 11, 2);
    }

    /** "5. each other THING that LIES has LAIN an HOUR more": not one that slipped in this hour. */
    private static void slippedForZeroHours() {
        ForgetStream x = Checks.with("long 9;thing a weighs 1 grips 2 minds 1 lies 1;thing b weighs 1 grips 2 minds 9 lies 1;");
        x.hour(3);
        Checks.ok(x, "14: a slipped", x.thing(0, 4), 0);
        Checks.ok(x, "14: b lay all the while", x.thing(1, 4), 3);
        told(x, "13: a is not remembered", 13, 0);
        x.hour(1);
        Checks.ok(x, "14: a an hour later", x.thing(0, 4), 1);
        told(x, "13: a is remembered", 13, 1);
    }

    /** "(99 at most)" */
    private static void lainForNinetyNine() {
        ForgetStream x = Checks.with("long 4;load 1;thing a weighs 2 grips 1 minds 1 lies 1;");
        x.hour(98);
        Checks.ok(x, "14: 98", x.thing(0, 4), 98);
        x.hour(1);
        Checks.ok(x, "14: 99", x.thing(0, 4), 99);
        x.hour(1);
        Checks.ok(x, "14: 99 still", x.thing(0, 4), 99);
        x.hour(168);
        Checks.ok(x, "14: 99 for ever", x.thing(0, 4), 99);
        Checks.ok(x, "21: fetched", x.fetch(0), 1);
        x.toss(0, 1);
        x.hour(1);
        Checks.ok(x, "14: 1, not 99", x.thing(0, 4), 1);
    }

    /** "for how many HOURS it has LAIN, is CARRIED (0 else)" */
    private static void hoursOfTheOthers() {
        ForgetStream x = House.full();
        Checks.ok(x, "14: home", x.thing(House.HOME, 4), 0);
        Checks.ok(x, "14: carried", x.thing(House.CARRIED, 4), 2);
        Checks.ok(x, "14: lies", x.thing(House.LIES, 4), 7);
        Checks.ok(x, "14: ashore", x.thing(House.ASHORE, 4), 0);
        int[] state = {3, 2, 1, 0, 0};
        for (int i = 0; i < state.length; i++) {
            Checks.ok(x, "14: state " + i, x.thing(i, 3), state[i]);
        }
        x.hour(1);
        Checks.ok(x, "14: home, an hour later", x.thing(House.HOME, 4), 0);
        Checks.ok(x, "14: ashore, an hour later", x.thing(House.ASHORE, 4), 0);
    }

    /** "So many HOURS (1 to 168)" */
    private static void oneHourAndHundredSixtyEight() {
        ForgetStream x = new ForgetStream();
        Checks.ok(x, "19: 1", x.hour(1), 0);
        told(x, "13: hour 1", 5, 1);
        told(x, "13: cell 1", 6, 1);
        Checks.ok(x, "19: 168", x.hour(168), 0);
        told(x, "13: hour 169", 5, 169);
        told(x, "13: the sea", 6, 7);
    }

    /** "how many TURNS there were in them": in these alone */
    private static void turnsInHours() {
        // in hours of a round: 1 in 1, 2 taken and slipped, 3 the sea, 4 turns, 5 in 1 (taken, slipped), 6 turns ..
        ForgetStream x = Checks.with("long 3;thing a weighs 1 grips 1 minds 1 lies 1;");
        int turns = x.turnsIn(168);
        Checks.ok(x, "19: 168", x.hour(168), turns);
        told(x, "13: as many in all", 8, turns);
        int more = x.turnsIn(5);
        Checks.ok(x, "19: in these five", x.hour(5), more);
        told(x, "13: more in all", 8, turns + more);
    }

    /** "THROW: a THING that is ASHORE or HOME LIES in a CELL, for 0 HOURS." */
    private static void thrown() {
        ForgetStream x = House.full();
        Checks.ok(x, "20: from ashore into cell 0", x.toss(House.ASHORE, 0));
        Checks.ok(x, "20: from home into the sea", x.toss(House.HOME, 4));
        Checks.ok(x, "15: cell 0", x.cellOf(House.ASHORE), 0);
        Checks.ok(x, "15: the sea", x.cellOf(House.HOME), 4);
        Checks.ok(x, "14: lies", x.thing(House.HOME, 3), 1);
        Checks.ok(x, "14: for 0 hours", x.thing(House.HOME, 4), 0);
        Checks.ok(x, "14: how often it came home stays", x.thing(House.HOME, 5), 1);
        told(x, "13: not ashore any more", 9, 1 << House.ASHORE_TOO);
        told(x, "13: none is home", 12, 0);
        Checks.no(x, "20: it lies now", x.toss(House.HOME, 4), 7);
        Checks.no(x, "20: it lies now", x.toss(House.ASHORE, 4), 7);
    }

    /** "FETCH: a THING that LIES is ASHORE." */
    private static void fetched() {
        ForgetStream x = House.full();
        Checks.ok(x, "21: in which cell it lay", x.fetch(House.LIES), 2);
        Checks.ok(x, "14: ashore", x.thing(House.LIES, 3), 0);
        Checks.ok(x, "14: for no hours", x.thing(House.LIES, 4), 0);
        Checks.no(x, "15: nowhere", x.cellOf(House.LIES), 6);
        Checks.no(x, "21: not again", x.fetch(House.LIES), 7);
        x.toss(House.LIES, 0);
        Checks.ok(x, "21: from cell 0", x.fetch(House.LIES), 0);
        // a goal that is fetched is none any more
        ForgetStream y = Checks.with("long 9;load 1;thing a weighs 2 grips 1 minds 1 lies 3;");
        y.hour(1);
        Checks.ok(y, "17: its cell", y.goal(), 3);
        y.fetch(0);
        Checks.ok(y, "17: the sea", y.goal(), 8);
    }

    /** "GRIP of a THING from now on (1 to 24 ..)" */
    private static void gripFromNowOn() {
        ForgetStream x = House.full();
        for (int hours : new int[] {1, 24}) {
            for (int thing = 0; thing < 5; thing++) {
                Checks.ok(x, "22: grip " + hours, x.grip(thing, hours));
                Checks.ok(x, "14: grip " + hours, x.thing(thing, 1), hours);
            }
        }
        // carried for two hours: a grip of four holds it one hour more, and lets it slip in the next
        ForgetStream y = House.full();
        y.grip(House.CARRIED, 4);
        y.hour(1);
        Checks.ok(y, "14: carried for three", y.thing(House.CARRIED, 4), 3);
        Checks.ok(y, "22: a greater grip holds it", y.grip(House.CARRIED, 24));
        y.hour(1);
        Checks.ok(y, "14: carried for four", y.thing(House.CARRIED, 4), 4);
    }

    /** "if it has been CARRIED as long, it slips in the next HOUR" */
    private static void gripThatIsOver() {
        for (int grip = 1; grip <= 3; grip++) {
            ForgetStream x = House.full();
            Checks.ok(x, "14: carried for two hours", x.thing(House.CARRIED, 4), 2);
            Checks.ok(x, "22: grip " + grip, x.grip(House.CARRIED, grip));
            Checks.ok(x, "14: it is carried still", x.thing(House.CARRIED, 3), 2);
            x.hour(1);
            Checks.ok(x, "14: it lies, by grip " + grip, x.thing(House.CARRIED, 3), 1);
            Checks.ok(x, "15: where the stream came", x.cellOf(House.CARRIED), 2);
            Checks.ok(x, "14: for 0 hours", x.thing(House.CARRIED, 4), 0);
        }
        ForgetStream y = House.full();
        y.grip(House.CARRIED, 4);
        y.hour(1);
        Checks.ok(y, "14: grip 4 holds it an hour more", y.thing(House.CARRIED, 3), 2);
        y.hour(1);
        Checks.ok(y, "14: and not two", y.thing(House.CARRIED, 3), 1);
    }

    /** In the sea it is home ahead of that. */
    private static void gripThatIsOverInTheSea() {
        ForgetStream x = House.full();
        x.hour(2);
        told(x, "13: a cell ahead of the sea", 6, 3);
        x.grip(House.CARRIED, 1);
        x.hour(1);
        Checks.ok(x, "14: home", x.thing(House.CARRIED, 3), 3);
    }

    /** "MIND of a THING from now on (1 to 24)" */
    private static void mindFromNowOn() {
        ForgetStream x = House.full();
        for (int hours : new int[] {1, 24}) {
            for (int thing = 0; thing < 5; thing++) {
                Checks.ok(x, "23: mind " + hours, x.mind(thing, hours));
                Checks.ok(x, "14: mind " + hours, x.thing(thing, 2), hours);
            }
        }
        // it has lain for seven hours: it comes to mind at once, and is forgotten again
        x.mind(House.LIES, 7);
        Checks.ok(x, "18: it is the goal", x.goalThing(), House.LIES);
        Checks.ok(x, "14: the hours stay", x.thing(House.LIES, 4), 7);
        x.mind(House.LIES, 8);
        Checks.no(x, "18: none is", x.goalThing(), 6);
    }

    /** "One THING more, ASHORE (WEIGHT 0 to 9, GRIP, MIND 1 to 24): its number" */
    private static void made() {
        ForgetStream x = new ForgetStream();
        Checks.ok(x, "24: the least", x.make(0, 1, 1), 0);
        Checks.ok(x, "24: the greatest", x.make(9, 24, 24), 1);
        int[] least = {0, 1, 1, 0, 0, 0};
        int[] most = {9, 24, 24, 0, 0, 0};
        for (int what = 0; what < 6; what++) {
            Checks.ok(x, "14: thing(0, " + what + ")", x.thing(0, what), least[what]);
            Checks.ok(x, "14: thing(1, " + what + ")", x.thing(1, what), most[what]);
        }
        for (int i = 2; i < 8; i++) {
            Checks.ok(x, "24: number " + i, x.make(1, 1, 1), i);
            told(x, "13: things", 0, i + 1);
        }
        Checks.no(x, "24: a ninth", x.make(1, 1, 1), 4);
        told(x, "13: eight", 0, 8);
        Checks.ok(x, "20: the eighth can be thrown", x.toss(7, 0));
    }

    /** "One MILL more (a CELL, 0 to 2 as mill() tells): its number" */
    private static void built() {
        ForgetStream x = new ForgetStream();
        for (int i = 0; i < 4; i++) {
            Checks.ok(x, "25: number " + i, x.build(i == 3 ? 7 : i, i % 3), i);
            told(x, "13: mills", 1, i + 1);
            Checks.ok(x, "16: its cell", x.mill(i, 0), i == 3 ? 7 : i);
            Checks.ok(x, "16: its kind", x.mill(i, 1), i % 3);
            Checks.ok(x, "16: nothing ground", x.mill(i, 2), 0);
        }
        Checks.no(x, "25: a fifth", x.build(0, 0), 4);
        told(x, "13: four", 1, 4);
        // of these that in 1 grinds by what runs down, that in 2 by both, that in the sea by what runs up
        x.hour(7);
        ground(x, "behind the built", 0, 1, 1, 0);
        // what went by ahead of it does not count
        ForgetStream y = new ForgetStream();
        y.hour(3);
        y.build(3, 2);
        y.build(4, 2);
        y.hour(1);
        ground(y, "from then on", 0, 1);
    }

    /** "LOAD (what 3: 1 to 40) .. from now on" */
    private static void loadFromNowOn() {
        ForgetStream x = House.full();
        for (int load : new int[] {1, 40}) {
            Checks.ok(x, "26: load " + load, x.rule(3, load));
            told(x, "13: load " + load, 3, load);
            told(x, "13: odds stay", 4, 5);
        }
    }

    /** "ODDS (4: 0 to 16) from now on" */
    private static void oddsFromNowOn() {
        ForgetStream x = House.full();
        for (int odds : new int[] {0, 16}) {
            Checks.ok(x, "26: odds " + odds, x.rule(4, odds));
            told(x, "13: odds " + odds, 4, odds);
            told(x, "13: load stays", 3, 9);
        }
        // what one of them can be the other can't
        Checks.no(x, "26: load 0", x.rule(3, 0), 1);
        Checks.no(x, "26: odds 17", x.rule(4, 17), 1);
        Checks.ok(x, "26: load 17", x.rule(3, 17));
        Checks.ok(x, "26: odds 0", x.rule(4, 0));
    }

    /** "An object is used for at most 512 calls": the last of them is as the first. */
    private static void fiveHundredAndTwelveCalls() {
        ForgetStream x = new ForgetStream();
        for (int call = 1; call <= 511; call++) {
            Checks.due("19: call " + call, x.hour(1), 0);
        }
        Checks.due("13: call 512", x.told(5), 511);
        ForgetStream y = new ForgetStream();
        for (int call = 1; call <= 511; call++) {
            Checks.due("9: call " + call, y.feed(0, 0, 0, 0, 0), call <= 45 ? 20 * call : -1);
        }
        Checks.due("10: call 512", y.glen(0), 0);
    }

    /** "sets of THINGS (1 for THING 0 ..)": 128 for the last */
    private static void setsOfEight() {
        ForgetStream x = Checks.with("long 2;load 40;stream 1;");
        for (int i = 0; i < 8; i++) {
            x.make(1, 24, 1);
        }
        told(x, "13: all ashore", 9, 255);
        for (int i = 0; i < 8; i++) {
            x.toss(i, 0);
        }
        told(x, "13: none ashore", 9, 0);
        told(x, "13: all lie", 10, 255);
        told(x, "13: none remembered", 13, 0);
        x.hour(1);
        told(x, "13: all remembered", 13, 255);
        x.hour(2);
        told(x, "13: all carried", 11, 255);
        told(x, "13: they weigh 8", 14, 8);
        told(x, "13: none lies", 10, 0);
        x.hour(2);
        told(x, "13: all home", 12, 255);
        x.toss(7, 0);
        told(x, "13: the last lies", 10, 128);
        told(x, "13: all others are home", 12, 127);
        Checks.ok(x, "33: it is not quiet by the last", x.quietIn(), 5);
        x.fetch(7);
        Checks.ok(x, "33: it is quiet", x.quietIn(), 0);
        for (int i = 0; i < 8; i++) {
            Checks.ok(x, "14: once home, " + i, x.thing(i, 5), 1);
        }
        Checks.days(x, "hour 1;");
        x.mean(0, 1);
        Checks.fraction(x, "54: all eight", 8, 1);
    }
}
