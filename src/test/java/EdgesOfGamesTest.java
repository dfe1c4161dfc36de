/** Loads, games, fractions, hours into a tray at their ends: promises 3, 4, 43, 44, 47 to 51. */
public final class EdgesOfGamesTest {
    public static void main(String[] args) {
        nothingLies();
        loadToTheLast();
        fewestThings();
        leastNumber();
        nothingThatWeighsNothing();
        besideWhatIsCarried();
        moreIsCarriedThanLoad();
        thoseThatLieAlone();
        eightThings();
        gameOfNoTurns();
        sixHoursAndNoMore();
        twelveHoursOfTwoTurns();
        belowNothing();
        firstOfAsGood();
        noneComesLast();
        noneIsBest();
        nothingToThrow();
        groundAheadDoesNotCount();
        gameOfEightThings();
        gameAtBothEnds();
        thrownFromHomeInTurnTwo();
        allGames();
        shareOfAll();
        shareOfNothing();
        shareWithoutCommonDivisor();
        shareOfFour();
        rainOfNoHours();
        rainOfNoneOrMore();
        rainOfMoreThanThereAre();
        rainOfTwelve();
        rainThatIsSure();
        rainThatNeverIs();
        fractionAtFirst();
        fractionThatStays();
        hoursIntoEachSort();
        hoursOfNoThings();
        hoursOfEight();
        Checks.end();
    }

    private static void heaviest(String glen, int hours, int set, int weight) {
        ForgetStream x = Checks.with(glen);
        if (hours > 0) {
            x.hour(hours);
        }
        Checks.ok(x, "43: " + glen, x.heaviest(), set);
        Checks.ok(x, "44: " + glen, x.heaviestWeight(), weight);
    }

    private static String lying(String name, int weight) {
        return "thing " + name + " weighs " + weight + " grips 24 minds 9 lies 1;";
    }

    private static void nothingLies() {
        heaviest("", 0, 0, 0);
        heaviest("thing a weighs 1 grips 1 minds 1;", 0, 0, 0);
        heaviest("load 1;" + lying("a", 2), 0, 0, 0);
    }

    /** "no more than LOAD" */
    private static void loadToTheLast() {
        heaviest("load 5;" + lying("a", 3) + lying("b", 2), 0, 3, 5);
        heaviest("load 4;" + lying("a", 3) + lying("b", 2), 0, 1, 3);
        heaviest("load 2;" + lying("a", 3) + lying("b", 2), 0, 2, 2);
        heaviest("load 1;" + lying("a", 3) + lying("b", 2), 0, 0, 0);
        heaviest("load 1;" + lying("a", 1), 0, 1, 1);
        heaviest("load 40;" + lying("a", 9) + lying("b", 9), 0, 3, 18);
        // not what is the heaviest by itself first
        heaviest("load 8;" + lying("a", 5) + lying("b", 4) + lying("c", 4), 0, 6, 8);
    }

    /** "of several sets that of the fewest THINGS" */
    private static void fewestThings() {
        heaviest("load 5;" + lying("a", 3) + lying("b", 2) + lying("c", 5), 0, 4, 5);
        heaviest("load 6;" + lying("a", 1) + lying("b", 2) + lying("c", 3) + lying("d", 3), 0, 12, 6);
    }

    /** "then the least as a number (1 for THING 0 ..)" */
    private static void leastNumber() {
        heaviest("load 5;" + lying("a", 5) + lying("b", 5), 0, 1, 5);
        heaviest("load 5;" + lying("a", 4) + lying("b", 3) + lying("c", 2) + lying("d", 1), 0, 6, 5);
        heaviest("load 5;" + lying("a", 1) + lying("b", 3) + lying("c", 2) + lying("d", 4), 0, 6, 5);
    }

    /** It would make the set no heavier, but of more things. */
    private static void nothingThatWeighsNothing() {
        heaviest(lying("a", 0), 0, 0, 0);
        heaviest(lying("a", 0) + lying("b", 2) + lying("c", 0), 0, 2, 2);
    }

    private static final String CARRIES = "long 5;load 6;thing a weighs 4 grips 24 minds 1 lies 1;" + lying("b", 2) + lying("c", 1);

    /** "but, with all that is CARRIED, no more than LOAD" */
    private static void besideWhatIsCarried() {
        heaviest(CARRIES, 0, 3, 6);
        heaviest(CARRIES, 2, 2, 2);
        ForgetStream x = Checks.with(CARRIES);
        x.hour(2);
        Checks.ok(x, "13: a is carried", x.told(11), 1);
        x.rule(3, 5);
        Checks.ok(x, "43: one beside it", x.heaviest(), 4);
        Checks.ok(x, "44: its weight alone", x.heaviestWeight(), 1);
        x.rule(3, 4);
        Checks.ok(x, "43: nothing beside it", x.heaviest(), 0);
        Checks.ok(x, "44: nothing", x.heaviestWeight(), 0);
    }

    private static void moreIsCarriedThanLoad() {
        ForgetStream x = Checks.with(CARRIES);
        x.hour(2);
        x.rule(3, 1);
        Checks.ok(x, "43: no set", x.heaviest(), 0);
        Checks.ok(x, "44: nothing", x.heaviestWeight(), 0);
    }

    private static void thoseThatLieAlone() {
        ForgetStream x = House.full();
        Checks.ok(x, "43: l, which weighs 3; nothing that is home, ashore", x.heaviest(), 1 << House.LIES);
        Checks.ok(x, "44: 3", x.heaviestWeight(), 3);
        // h of 1, s of 4 are thrown: beside c of 2 there is room for 7
        x.toss(House.HOME, 0);
        x.toss(House.ASHORE, 0);
        Checks.ok(x, "43: l and s", x.heaviest(), 1 << House.LIES | 1 << House.ASHORE);
        Checks.ok(x, "44: 7", x.heaviestWeight(), 7);
    }

    private static void eightThings() {
        StringBuilder s = new StringBuilder();
        for (char name = 'a'; name <= 'h'; name++) {
            s.append(lying("" + name, 5));
        }
        heaviest("load 40;" + s, 0, 255, 40);
        heaviest("load 39;" + s, 0, 127, 35);
        heaviest("load 5;" + s, 0, 1, 5);
        heaviest("load 4;" + s, 0, 0, 0);
        ForgetStream x = Checks.with("load 5;" + s);
        for (int i = 0; i < 7; i++) {
            x.fetch(i);
        }
        Checks.ok(x, "43: the last alone", x.heaviest(), 128);
    }

    /** It runs up in the sea and stands there; u grinds once if a comes to mind in time. */
    private static String farm(int mind) {
        return "long 3;stream 2 up;thing a weighs 1 grips 24 minds " + mind + ";mill u at 1 up;mill d at 1 down;";
    }

    private static void game(String glen, int turns, int due, int thing, int cell) {
        game(Checks.with(glen), glen, turns, due, thing, cell);
    }

    private static void game(ForgetStream x, String what, int turns, int due, int thing, int cell) {
        Checks.ok(x, "47: " + turns + " turns of " + what, x.game(0, 1, turns), due);
        if (thing < 0) {
            Checks.no(x, "48: " + what, x.moveOf(0, 1, turns, 0), 6);
            Checks.no(x, "48: " + what, x.moveOf(0, 1, turns, 1), 6);
        } else {
            Checks.ok(x, "48: thing of " + what, x.moveOf(0, 1, turns, 0), thing);
            Checks.ok(x, "48: cell of " + what, x.moveOf(0, 1, turns, 1), cell);
        }
    }

    private static void gameOfNoTurns() {
        ForgetStream x = Checks.with(farm(1));
        Checks.ok(x, "47: no turns", x.game(0, 1, 0), 0);
        Checks.ok(x, "47: no turns", x.game(1, 0, 0), 0);
        Checks.no(x, "48: turns 0", x.moveOf(0, 1, 0, 0), 1);
        // it would have ground by itself
        ForgetStream y = Checks.with("long 3;mill a at 1 down;mill b at 1 up;");
        Checks.ok(y, "47: no turns, no hours", y.game(0, 1, 0), 0);
        Checks.ok(y, "47: one turn", y.game(0, 1, 1), 1);
    }

    /** "behind each turn 6 HOURS go by": by mind 5 it is in cell 1 in the sixth hour */
    private static void sixHoursAndNoMore() {
        game(farm(5), 1, 1, 0, 0);
        game(farm(6), 1, 0, 0, 0);
        game(farm(24), 1, 0, 0, 0);
        // up into 1, a turn, down into the sea: three hours behind its mind; in cell 0 it would let u grind
        game("long 3;stream 2 up;thing a weighs 1 grips 24 minds 2;mill d at 2 down;mill u at 0 both;", 1, 1, 0, 1);
        game("long 3;stream 2 up;thing a weighs 1 grips 24 minds 3;mill d at 2 down;mill u at 0 both;", 1, 1, 0, 1);
        game("long 3;stream 2 up;thing a weighs 1 grips 24 minds 4;mill d at 2 down;mill u at 0 both;", 1, 0, 0, 1);
    }

    private static void twelveHoursOfTwoTurns() {
        // thrown first it comes to mind in the second turn, whatever the second does
        game(farm(10), 2, 1, 0, 0);
        game(farm(11), 2, 1, 0, 0);
        game(farm(12), 2, 0, 0, 0);
    }

    /** "STATUS tells NONE from -1" */
    private static void belowNothing() {
        game("long 3;mill a at 0 down;mill b at 1 down;", 1, -1, -1, -1);
        ForgetStream x = Checks.with("long 4;mill a at 0 down;mill b at 1 down;mill c at 2 down;mill d at 1 both;");
        Checks.ok(x, "47: -1", x.game(0, 1, 2), -1);
        Checks.ok(x, "47: the other way round 1", x.game(1, 0, 2), 1);
        Checks.no(x, "47: NONE", x.game(1, 1, 2), 1);
    }

    /** "of all that are as good the first by THING, then CELL" */
    private static void firstOfAsGood() {
        game("long 4;stream 3 up;thing a weighs 1 grips 24 minds 24;thing b weighs 1 grips 24 minds 24;"
                + "mill m at 1 both;mill n at 2 both;", 1, 0, 0, 0);
        // a lies: b is the first that can be thrown, and of its cells the first by which m grinds
        game("long 4;load 1;stream 3 up;thing a weighs 9 grips 24 minds 24 lies 3;thing b weighs 9 grips 24 minds 2;"
                + "thing c weighs 9 grips 24 minds 2;mill m at 2 up;mill n at 0 both;", 1, 1, 1, 1);
        // a comes to mind too late, b leads back to m, and stands there
        game("long 4;load 1;stream 0;thing a weighs 9 grips 24 minds 24;thing b weighs 9 grips 24 minds 1;"
                + "mill m at 0 both;mill n at 3 down;", 1, 1, 1, 0);
    }

    /** "none comes last": it is as good as the first throw, and is not the move. */
    private static void noneComesLast() {
        game("long 2;stream 1 up;thing a weighs 1 grips 1 minds 24;mill m at 0 both;mill n at 1 both;", 1, 0, 0, 0);
        game("long 2;stream 1 up;thing a weighs 1 grips 1 minds 24;mill m at 0 both;mill n at 1 both;", 2, 0, 0, 0);
    }

    /** It goes round by m and n; whatever is thrown by mind 1 makes it stand. */
    private static void noneIsBest() {
        String glen = "long 2;load 1;stream 1 up;thing a weighs 1 grips 1 minds 1 lies 0;"
                + "thing b weighs 1 grips 7 minds 4;mill m at 0 up;mill n at 0 down;";
        ForgetStream x = Checks.with(glen);
        x.hour(1);
        int best = -100;
        for (int cell = 0; cell < 2; cell++) {
            best = Math.max(best, lead(glen, 1, new int[] {1, cell}));
        }
        int none = lead(glen, 1, new int[] {-1, -1});
        Checks.due("48: a throw is not as good", best <= none, true);
        game(x, "an hour later of " + glen, 1, none, best == none ? 1 : -1, best == none ? 0 : -1);
    }

    private static void nothingToThrow() {
        game("long 3;mill m at 1 both;mill n at 0 both;", 1, 1, -1, -1);
        game("long 3;mill m at 1 both;mill n at 0 both;", 2, 1, -1, -1);
        game("long 3;load 1;thing a weighs 9 grips 1 minds 1 lies 2;mill m at 1 both;mill n at 0 both;", 2, 1, -1, -1);
    }

    /** "how often the first has GROUND in these": what was ground ahead does not count */
    private static void groundAheadDoesNotCount() {
        ForgetStream x = Checks.with("long 3;mill m at 1 both;mill n at 2 both;");
        Checks.ok(x, "47: one each", x.game(0, 1, 1), 0);
        x.hour(1);
        Checks.ok(x, "16: m has ground", x.mill(0, 2), 1);
        Checks.ok(x, "47: n alone from now on", x.game(0, 1, 1), -1);
        Checks.ok(x, "47: n alone, turned round", x.game(1, 0, 1), 1);
        x.hour(1);
        Checks.ok(x, "47: nothing more", x.game(0, 1, 2), 0);
    }

    /** The last of eight is thrown as the others are. */
    private static void gameOfEightThings() {
        ForgetStream x = Checks.with("long 3;load 1;stream 2 up;mill m at 1 up;mill n at 0 both;");
        for (int i = 0; i < 8; i++) {
            x.make(9, 24, i == 7 ? 1 : 24);
        }
        game(x, "eight things", 1, 1, 7, 1);
        game(x, "eight things, two turns", 2, 1, 7, 1);
        x.toss(7, 0);
        game(x, "the last lies in 0", 1, 0, 0, 0);
    }

    /** A stream never comes up into the sea, nor down into cell 0: neither farm can make its mill grind. */
    private static void gameAtBothEnds() {
        ForgetStream x = Checks.with("long 2;stream 1;thing a weighs 1 grips 24 minds 1;mill u at 1 up;mill d at 0 down;");
        for (int turns = 1; turns <= 2; turns++) {
            Checks.ok(x, "47: u leads", x.game(0, 1, turns), 0);
            Checks.ok(x, "47: d leads", x.game(1, 0, turns), 0);
            Checks.ok(x, "48: the first thing", x.moveOf(0, 1, turns, 0), 0);
            Checks.ok(x, "48: the first cell", x.moveOf(0, 1, turns, 1), 0);
        }
    }

    /** What gets home in the first six hours can be thrown in the second turn. */
    private static void thrownFromHomeInTurnTwo() {
        allGamesOf("long 3;stream 1;thing a weighs 1 grips 24 minds 1 lies 2;mill m at 1 up;mill n at 1 both;", 0);
        allGamesOf("long 3;stream 2;thing a weighs 1 grips 24 minds 1;mill m at 1 up;mill n at 0 both;", 0);
    }

    /** By how much mill 0 leads mill 1 behind these turns: thing, cell, thing, cell (-1: none); -100 if they can't be. */
    private static int lead(String glen, int hours, int[] moves) {
        ForgetStream x = Checks.with(glen);
        if (hours > 0) {
            x.hour(hours);
        }
        int ahead = x.mill(0, 2) - x.mill(1, 2);
        for (int i = 0; i < moves.length; i += 2) {
            if (moves[i] >= 0 && !x.toss(moves[i], moves[i + 1])) {
                return -100;
            }
            x.hour(6);
        }
        return x.mill(0, 2) - x.mill(1, 2) - ahead;
    }

    private static void allGames() {
        allGamesOf(farm(1), 0);
        allGamesOf(farm(5), 0);
        allGamesOf(farm(6), 0);
        allGamesOf("long 4;stream 1;thing a weighs 1 grips 2 minds 2;thing b weighs 0 grips 24 minds 5;mill m at 2 up;mill n at 1 down;", 0);
        allGamesOf("long 4;stream 2 up;thing a weighs 3 grips 24 minds 1;thing b weighs 9 grips 3 minds 3;mill m at 0 both;mill n at 2 both;", 0);
        allGamesOf("long 2;load 1;stream 1 up;thing a weighs 1 grips 1 minds 1 lies 0;"
                + "thing b weighs 1 grips 7 minds 4;mill m at 0 up;mill n at 0 down;", 1);
    }

    /** Each game of one and two turns, turn by turn. */
    private static void allGamesOf(String glen, int hours) {
        for (int turns = 1; turns <= 2; turns++) {
            int[][] moves = moves(glen);
            int best = -100;
            int[] move = null;
            for (int[] first : moves) {
                int value = turns == 1 || lead(glen, hours, first) == -100 ? lead(glen, hours, first) : worst(glen, hours, first, moves);
                if (value > best) {
                    best = value;
                    move = first;
                }
            }
            ForgetStream x = Checks.with(glen);
            if (hours > 0) {
                x.hour(hours);
            }
            game(x, glen, turns, best, move[0], move[1]);
        }
    }

    private static int worst(String glen, int hours, int[] first, int[][] moves) {
        int worst = 100;
        for (int[] second : moves) {
            int lead = lead(glen, hours, new int[] {first[0], first[1], second[0], second[1]});
            worst = lead == -100 ? worst : Math.min(worst, lead);
        }
        return worst;
    }

    /** By thing, then by cell; none comes last. */
    private static int[][] moves(String glen) {
        ForgetStream x = Checks.with(glen);
        int cells = x.told(2);
        int[][] moves = new int[x.told(0) * cells + 1][2];
        for (int i = 0; i < moves.length - 1; i++) {
            moves[i][0] = i / cells;
            moves[i][1] = i % cells;
        }
        moves[moves.length - 1][0] = -1;
        moves[moves.length - 1][1] = -1;
        return moves;
    }

    /** "the part of all that was GROUND that a MILL has": 1 by 1, 0 by 1 */
    private static void shareOfAll() {
        ForgetStream x = Checks.with("long 3;mill m at 1 down;mill n at 1 up;");
        x.hour(1);
        Checks.ok(x, "49: all", x.share(0));
        Checks.fraction(x, "49: all", 1, 1);
        Checks.ok(x, "49: nothing of it", x.share(1));
        Checks.fraction(x, "49: 0 is 0 by 1", 0, 1);
    }

    /** "6: nothing was" */
    private static void shareOfNothing() {
        ForgetStream x = Checks.with("long 3;stream 2;mill m at 2 both;");
        x.rain(1, 1);
        Checks.no(x, "49: nothing was ground", x.share(0), 6);
        Checks.fraction(x, "49: the fraction stays", 1, 4);
        Checks.no(x, "49: no such mill", x.share(1), 1);
        Checks.no(x, "49: no such mill", x.share(-1), 1);
    }

    private static void shareWithoutCommonDivisor() {
        ForgetStream x = Checks.with("long 9;mill a at 1 down;mill b at 2 down;mill c at 3 down;mill d at 4 down;");
        x.hour(2);
        Checks.ok(x, "49: 1 of 2", x.share(0));
        Checks.fraction(x, "49: 1 of 2", 1, 2);
        x.hour(2);
        Checks.ok(x, "49: 1 of 4", x.share(3));
        Checks.fraction(x, "49: 1 of 4", 1, 4);
        // a round of up and down: two of four by a mill of both ways
        ForgetStream y = Checks.with("long 3;thing a weighs 1 grips 1 minds 1 lies 1;mill m at 1 both;mill n at 2 down;");
        y.hour(168);
        int m = y.mill(0, 2);
        int n = y.mill(1, 2);
        y.share(0);
        Checks.due("49: as by the mills", y.top() * (m + n), m * y.bottom());
        Checks.due("49: nothing divides both", gcd(y.top(), y.bottom()), 1);
    }

    private static long gcd(long a, long b) {
        return b == 0 ? a : gcd(b, a % b);
    }

    private static void shareOfFour() {
        ForgetStream x = Checks.with("long 3;mill a at 1 both;mill b at 1 both;mill c at 2 both;mill d at 0 both;");
        x.hour(9);
        int[] tops = {1, 1, 1, 0};
        int[] bottoms = {3, 3, 3, 1};
        for (int mill = 0; mill < 4; mill++) {
            Checks.ok(x, "49: mill " + mill, x.share(mill));
            Checks.fraction(x, "49: mill " + mill, tops[mill], bottoms[mill]);
        }
    }

    private static void rain(int odds, int n, int k, long top, long bottom) {
        ForgetStream x = new ForgetStream();
        x.rule(4, odds);
        Checks.ok(x, "50: odds " + odds + ", rain(" + n + ", " + k + ")", x.rain(n, k));
        Checks.fraction(x, "50: odds " + odds + ", rain(" + n + ", " + k + ")", top, bottom);
    }

    private static void rainOfNoHours() {
        rain(4, 0, 0, 1, 1);
        rain(4, 0, 1, 0, 1);
        rain(4, 0, 12, 0, 1);
        rain(0, 0, 0, 1, 1);
        rain(16, 0, 1, 0, 1);
    }

    /** "the odds that k or more are": 0 or more are sure */
    private static void rainOfNoneOrMore() {
        for (int odds = 0; odds <= 16; odds++) {
            rain(odds, 1, 0, 1, 1);
            rain(odds, 12, 0, 1, 1);
        }
    }

    private static void rainOfMoreThanThereAre() {
        for (int odds = 0; odds <= 16; odds++) {
            rain(odds, 1, 2, 0, 1);
            rain(odds, 11, 12, 0, 1);
        }
    }

    private static final long ALL = 281474976710656L;

    private static void rainOfTwelve() {
        rain(1, 12, 12, 1, ALL);
        rain(15, 12, 1, ALL - 1, ALL);
        rain(15, 12, 12, 129746337890625L, ALL);
        rain(1, 12, 1, ALL - 129746337890625L, ALL);
        rain(8, 12, 12, 1, 4096);
        rain(8, 12, 1, 4095, 4096);
        rain(8, 12, 11, 13, 4096);
        rain(4, 1, 1, 1, 4);
        rain(3, 2, 2, 9, 256);
        rain(3, 2, 1, 256 - 169, 256);
    }

    private static void rainThatIsSure() {
        for (int n = 0; n <= 12; n++) {
            rain(16, n, n, 1, 1);
        }
        rain(16, 12, 1, 1, 1);
    }

    private static void rainThatNeverIs() {
        for (int n = 1; n <= 12; n++) {
            rain(0, n, 1, 0, 1);
        }
        rain(0, 12, 12, 0, 1);
    }

    /** "the FRACTION 0 by 1" */
    private static void fractionAtFirst() {
        ForgetStream x = new ForgetStream();
        Checks.fraction(x, "3, 4: at first", 0, 1);
        x.rain(2, 3);
        Checks.fraction(x, "3, 4: 0 is 0 by 1", 0, 1);
    }

    /** "The top of the FRACTION told latest." */
    private static void fractionThatStays() {
        ForgetStream x = House.full();
        Checks.ok(x, "50: told", x.rain(2, 2));
        Checks.fraction(x, "50: 25 by 256", 25, 256);
        x.rain(13, 0);
        Checks.fraction(x, "50: not by what can't be", 25, 256);
        x.share(4);
        Checks.fraction(x, "49: not by what can't be", 25, 256);
        x.mean(0, 21);
        Checks.fraction(x, "54: not by what can't be", 25, 256);
        x.hour(5);
        x.glen(0);
        Checks.fraction(x, "3, 4: not by a glen", 25, 256);
        x.undo();
        Checks.fraction(x, "3, 4: not by undo", 25, 256);
        x.rain(0, 0);
        Checks.fraction(x, "3, 4: the latest", 1, 1);
    }

    /** "HOURS for which THINGS have LAIN, are CARRIED (0 else) come to a TRAY, one by one: how many THINGS" */
    private static void hoursIntoEachSort() {
        for (int sort = 0; sort < 4; sort++) {
            ForgetStream x = House.full();
            x.tray(3, sort, 6);
            for (int place = 0; place < 6; place++) {
                x.write(3, place, -9);
            }
            Checks.ok(x, "51: five things", x.copyHours(3), 5);
            int[] due = {0, 2, 7, 0, 0, -9};
            for (int place = 0; place < 6; place++) {
                Checks.ok(x, "51: place " + place + " of sort " + sort, x.read(3, place), due[place]);
            }
            x.tray(3, sort, 5);
            Checks.ok(x, "51: five places are as many", x.copyHours(3), 5);
            x.tray(3, sort, 4);
            Checks.no(x, "51: four are too few", x.copyHours(3), 3);
            Checks.ok(x, "51: nothing came", x.read(3, 2), 0);
        }
    }

    private static void hoursOfNoThings() {
        ForgetStream x = new ForgetStream();
        Checks.no(x, "51: missing all the same", x.copyHours(0), 2);
        x.tray(0, 0, 1);
        x.write(0, 0, 5);
        Checks.ok(x, "51: none", x.copyHours(0), 0);
        Checks.ok(x, "51: it stays", x.read(0, 0), 5);
    }

    private static void hoursOfEight() {
        ForgetStream x = Checks.with("load 1;");
        for (int i = 0; i < 8; i++) {
            x.make(9, 24, 24);
            x.toss(i, 0);
            x.hour(1);
        }
        x.hour(95);
        x.tray(0, 0, 8);
        Checks.ok(x, "51: eight", x.copyHours(0), 8);
        int[] due = {99, 99, 99, 99, 99, 98, 97, 96};
        for (int i = 0; i < 8; i++) {
            Checks.ok(x, "51: thing " + i, x.read(0, i), due[i]);
        }
    }
}
