/**
 * A stream that goes back for what it forgot: a bed of cells down to the sea, things that
 * are tossed in, remembered, taken up, let slip and brought home, mills, boats, farms, rain.
 *
 * <p>What can't be is told by status() alone. All rows are made once, with the object, and
 * used again, so that no call makes objects of its own: a run of many calls has little room.
 */
public final class ForgetStream {
    /** None. */
    public static final int NONE = -1;

    private static final int OK = 0;
    private static final int BAD_NUMBER = 1;
    private static final int TRAY_MISSING = 2;
    private static final int NO_PLACE = 3;
    private static final int ONE_TOO_MANY = 4;
    private static final int BAD_IN_TRAY = 5;
    private static final int NONE_SUCH = 6;
    private static final int CANNOT_BE = 7;
    private static final int UNLIKE_SORTS = 8;
    private static final int FAULTY = 9;

    private static final int MOST_THINGS = 8;
    private static final int MOST_MILLS = 4;
    private static final int MOST_CELLS = 16;
    private static final int MOST_MIND = 24;
    private static final int MOST_GRIP = 24;
    private static final int MOST_WEIGHT = 9;
    private static final int MOST_LOAD = 40;
    private static final int MOST_ODDS = 16;
    private static final int MOST_AGE = 99;
    private static final int LAST_HOUR = 9999;
    private static final int FAR_AHEAD = 400;
    private static final int NEAR_AHEAD = 60;
    private static final int LONGEST_DAYS = 300;
    private static final int LAST_SEED = 9999;
    private static final int MOST_MARKS = 3;

    private int status;
    private long top;
    private long bottom;
    private final Trays trays;
    private final Text text;
    private final Glen glen;
    private final Days days;
    private final GlenReader glenReader;
    private final DaysReader daysReader;
    private final Ahead ahead;
    private final Game game;
    private final Life life;
    private int marks;
    private final Glen[] markedGlens;
    private final Days[] markedDays;
    /** What live() came to latest, by the numbers of lived(). */
    private final int[] latestLife;
    private boolean hasLived;
    /** For what is tried out and forgotten. */
    private final Glen trial;

    public ForgetStream() {
        top = 0;
        bottom = 1;
        trays = new Trays();
        text = new Text();
        glen = new Glen();
        days = new Days();
        trial = new Glen();
        glenReader = new GlenReader();
        daysReader = new DaysReader();
        ahead = new Ahead();
        game = new Game();
        life = new Life();
        marks = 0;
        markedGlens = new Glen[MOST_MARKS];
        markedDays = new Days[MOST_MARKS];
        for (int i = 0; i < MOST_MARKS; i++) {
            markedGlens[i] = new Glen();
            markedDays[i] = new Days();
        }
        latestLife = new int[5];
        hasLived = false;
        status = OK;
    }

    public int status() {
        return status;
    }

    public long top() {
        return top;
    }

    public long bottom() {
        return bottom;
    }

    // ---- TRAYS

    public boolean tray(int tray, int sort, int many) {
        if (outside(tray, 0, Trays.MANY - 1) || outside(sort, 0, 3) || outside(many, 0, Trays.LONGEST)) {
            return refuse(BAD_NUMBER);
        }
        trays.lay(tray, sort, many);
        return accept();
    }

    public boolean write(int tray, int place, long v) {
        int why = whyNoPlace(tray, place);
        if (why != OK) {
            return refuse(why);
        }
        trays.put(tray, place, v);
        return accept();
    }

    public long read(int tray, int place) {
        int why = whyNoPlace(tray, place);
        status = why;
        return why == OK ? trays.numbers[tray][place] : NONE;
    }

    public boolean pour(int from, int place, int to, int at, int many) {
        if (!trays.isTray(from) || !trays.isTray(to) || place < 0 || at < 0 || many < 0) {
            return refuse(BAD_NUMBER);
        }
        if (trays.isMissing(from) || trays.isMissing(to)) {
            return refuse(TRAY_MISSING);
        }
        if (trays.sort[from] != trays.sort[to]) {
            return refuse(UNLIKE_SORTS);
        }
        if ((long) place + many > trays.length[from] || (long) at + many > trays.length[to]) {
            return refuse(NO_PLACE);
        }
        System.arraycopy(trays.numbers[from], place, trays.numbers[to], at, many);
        return accept();
    }

    // ---- texts

    public int feed(int a, int b, int c, int d, int e) {
        if (!text.hasRoomFor(20)) {
            return NONE;
        }
        text.append(a);
        text.append(b);
        text.append(c);
        text.append(d);
        text.append(e);
        return text.taped;
    }

    public int glen(int n) {
        if (outside(n, 0, text.taped)) {
            return refused(BAD_NUMBER);
        }
        text.open(n);
        glenReader.readInto(trial, text);
        if (text.fault != 0) {
            return refused(FAULTY);
        }
        glen.copyFrom(trial);
        days.clear();
        return given(glen.things.count);
    }

    public int days(int n) {
        if (outside(n, 0, Math.min(text.taped, LONGEST_DAYS))) {
            return refused(BAD_NUMBER);
        }
        text.open(n);
        daysReader.readFor(glen, text);
        if (text.fault != 0) {
            return refused(FAULTY);
        }
        days.copyFrom(daysReader.days);
        return given(days.steps);
    }

    public int fault(int what) {
        if (what == 0) {
            return text.fault;
        }
        return what == 1 ? text.place : NONE;
    }

    public int told(int what) {
        switch (what) {
            case 0: return given(glen.things.count);
            case 1: return given(glen.mills.count);
            case 2: return given(glen.size);
            case 3: return given(glen.load);
            case 4: return given(glen.odds);
            case 5: return given(glen.hour);
            case 6: return given(glen.at);
            case 7: return given(glen.way);
            case 8: return given(glen.turns);
            case 9: return given(glen.things.setThatIs(Things.ASHORE));
            case 10: return given(glen.things.setThatIs(Things.LYING));
            case 11: return given(glen.things.setThatIs(Things.CARRIED));
            case 12: return given(glen.things.setThatIs(Things.HOME));
            case 13: return given(glen.things.setRemembered());
            case 14: return given(glen.things.carriedWeight());
            default: return refused(BAD_NUMBER);
        }
    }

    public int thing(int thing, int what) {
        if (!isThing(thing)) {
            return refused(BAD_NUMBER);
        }
        switch (what) {
            case 0: return given(glen.things.weight[thing]);
            case 1: return given(glen.things.grip[thing]);
            case 2: return given(glen.things.mind[thing]);
            case 3: return given(glen.things.state[thing]);
            case 4: return given(glen.things.age[thing]);
            case 5: return given(glen.things.homes[thing]);
            default: return refused(BAD_NUMBER);
        }
    }

    public int cellOf(int thing) {
        if (!isThing(thing)) {
            return refused(BAD_NUMBER);
        }
        if (glen.things.isFree(thing)) {
            return refused(NONE_SUCH);
        }
        return given(glen.things.isLying(thing) ? glen.things.cell[thing] : glen.at);
    }

    public int mill(int mill, int what) {
        if (!isMill(mill)) {
            return refused(BAD_NUMBER);
        }
        switch (what) {
            case 0: return given(glen.mills.cell[mill]);
            case 1: return given(glen.mills.kind[mill]);
            case 2: return given(glen.mills.ground[mill]);
            default: return refused(BAD_NUMBER);
        }
    }

    public int goal() {
        return given(glen.goalCell(glen.things.longestRemembered()));
    }

    public int goalThing() {
        int thing = glen.things.longestRemembered();
        return thing == NONE ? refused(NONE_SUCH) : given(thing);
    }

    // ---- what is done

    public int hour(int many) {
        if (outside(many, 1, 168)) {
            return refused(BAD_NUMBER);
        }
        if (glen.hour + many > LAST_HOUR) {
            return refused(ONE_TOO_MANY);
        }
        return given(glen.passHours(many));
    }

    public boolean toss(int thing, int cell) {
        if (!isThing(thing) || !isCell(cell)) {
            return refuse(BAD_NUMBER);
        }
        if (!glen.things.isFree(thing)) {
            return refuse(CANNOT_BE);
        }
        glen.things.throwInto(thing, cell);
        return accept();
    }

    public int fetch(int thing) {
        if (!isThing(thing)) {
            return refused(BAD_NUMBER);
        }
        if (!glen.things.isLying(thing)) {
            return refused(CANNOT_BE);
        }
        int cell = glen.things.cell[thing];
        glen.things.bringAshore(thing);
        return given(cell);
    }

    public boolean grip(int thing, int hours) {
        if (!isThing(thing) || outside(hours, 1, MOST_GRIP)) {
            return refuse(BAD_NUMBER);
        }
        glen.things.grip[thing] = hours;
        return accept();
    }

    public boolean mind(int thing, int hours) {
        if (!isThing(thing) || outside(hours, 1, MOST_MIND)) {
            return refuse(BAD_NUMBER);
        }
        glen.things.mind[thing] = hours;
        return accept();
    }

    public int make(int weight, int grip, int mind) {
        if (outside(weight, 0, MOST_WEIGHT) || outside(grip, 1, MOST_GRIP) || outside(mind, 1, MOST_MIND)) {
            return refused(BAD_NUMBER);
        }
        if (glen.things.count >= MOST_THINGS) {
            return refused(ONE_TOO_MANY);
        }
        return given(glen.things.addThing(Text.NO_NAME, weight, grip, mind));
    }

    public int build(int cell, int kind) {
        if (!isCell(cell) || outside(kind, Glen.UP, Mills.BOTH)) {
            return refused(BAD_NUMBER);
        }
        if (glen.mills.count >= MOST_MILLS) {
            return refused(ONE_TOO_MANY);
        }
        return given(glen.mills.addMill(Text.NO_NAME, cell, kind));
    }

    public boolean rule(int what, int much) {
        if (what == 3 && !outside(much, 1, MOST_LOAD)) {
            glen.load = much;
            return accept();
        }
        if (what == 4 && !outside(much, 0, MOST_ODDS)) {
            glen.odds = much;
            return accept();
        }
        return refuse(BAD_NUMBER);
    }

    // ---- what will be

    public int atIn(int hours) {
        if (outside(hours, 0, FAR_AHEAD)) {
            return refused(BAD_NUMBER);
        }
        trial.copyFrom(glen);
        trial.passHours(hours);
        return given(trial.at);
    }

    public int carriedIn(int hours) {
        if (outside(hours, 0, FAR_AHEAD)) {
            return refused(BAD_NUMBER);
        }
        trial.copyFrom(glen);
        trial.passHours(hours);
        return given(trial.things.setThatIs(Things.CARRIED));
    }

    public int homeIn(int thing) {
        if (!isThing(thing)) {
            return refused(BAD_NUMBER);
        }
        trial.copyFrom(glen);
        return givenOrNone(trial.hoursTillHome(thing, FAR_AHEAD));
    }

    public int turnsIn(int hours) {
        if (outside(hours, 0, FAR_AHEAD)) {
            return refused(BAD_NUMBER);
        }
        trial.copyFrom(glen);
        return given(trial.passHours(hours));
    }

    public int turnIn() {
        trial.copyFrom(glen);
        return givenOrNone(trial.hoursTillTurn(FAR_AHEAD));
    }

    public int groundIn(int mill, int hours) {
        if (!isMill(mill) || outside(hours, 0, FAR_AHEAD)) {
            return refused(BAD_NUMBER);
        }
        trial.copyFrom(glen);
        trial.passHours(hours);
        return given(trial.mills.ground[mill] - glen.mills.ground[mill]);
    }

    public int quietIn() {
        trial.copyFrom(glen);
        return givenOrNone(trial.hoursTillQuiet(FAR_AHEAD));
    }

    public int ring() {
        trial.copyFrom(glen);
        return givenOrNone(ahead.ringOf(trial));
    }

    // ---- what to toss in

    public int aim(int thing, int hour) {
        if (!isThing(thing) || outside(hour, 0, NEAR_AHEAD)) {
            return refused(BAD_NUMBER);
        }
        if (!glen.things.isFree(thing)) {
            return refused(CANNOT_BE);
        }
        return givenOrNone(ahead.cellToTurnIn(glen, trial, thing, hour));
    }

    public int soonest(int thing) {
        int why = whyNotSoonest(thing);
        return why == OK ? given(ahead.firstCell) : refused(why);
    }

    public int soonestIn(int thing) {
        int why = whyNotSoonest(thing);
        return why == OK ? given(ahead.best) : refused(why);
    }

    public int drive(int mill, int thing, int other, int hours) {
        int why = whyNotDriven(mill, thing, other, hours);
        return why == OK ? given(ahead.best) : refused(why);
    }

    public int driveCell(int mill, int thing, int other, int hours, int what) {
        if (outside(what, 0, 1)) {
            return refused(BAD_NUMBER);
        }
        int why = whyNotDriven(mill, thing, other, hours);
        if (why != OK) {
            return refused(why);
        }
        return given(what == 0 ? ahead.firstCell : ahead.secondCell);
    }

    // ---- what was seen

    public int minded(int thing, int tray, int n) {
        int why = whyNotMinded(thing, tray, n);
        return why == OK ? given(ahead.countMinds()) : refused(why);
    }

    public int mindedAt(int thing, int tray, int n, int what) {
        if (outside(what, 0, 1)) {
            return refused(BAD_NUMBER);
        }
        int why = whyNotMinded(thing, tray, n);
        if (why != OK) {
            return refused(why);
        }
        return givenOrNone(what == 0 ? ahead.leastMind() : ahead.greatestMind());
    }

    public int ask(int thing, int tray, int n) {
        int why = whyNotMinded(thing, tray, n);
        if (why != OK) {
            return refused(why);
        }
        return givenOrNone(ahead.bestQuestion());
    }

    // ---- loads, boats

    public int heaviest() {
        return given(glen.heaviestSet());
    }

    public int heaviestWeight() {
        return given(glen.things.weightOf(glen.heaviestSet()));
    }

    public int ride(int cell, int other) {
        if (!isCell(cell) || !isCell(other)) {
            return refused(BAD_NUMBER);
        }
        trial.copyFrom(glen);
        ahead.sail(trial, cell, other);
        return givenOrNone(ahead.best);
    }

    public int waits(int cell, int other) {
        if (!isCell(cell) || !isCell(other)) {
            return refused(BAD_NUMBER);
        }
        trial.copyFrom(glen);
        ahead.sail(trial, cell, other);
        return ahead.best == NONE ? refused(NONE_SUCH) : given(ahead.waited);
    }

    // ---- games, fractions

    public int game(int mill, int other, int turns) {
        if (!isMill(mill) || !isMill(other) || mill == other || outside(turns, 0, 2)) {
            return refused(BAD_NUMBER);
        }
        game.play(glen, mill, other, turns);
        return given(game.best);
    }

    public int moveOf(int mill, int other, int turns, int what) {
        if (!isMill(mill) || !isMill(other) || mill == other || outside(turns, 1, 2) || outside(what, 0, 1)) {
            return refused(BAD_NUMBER);
        }
        game.play(glen, mill, other, turns);
        return givenOrNone(what == 0 ? game.bestThing : game.bestCell);
    }

    public boolean share(int mill) {
        if (!isMill(mill)) {
            return refuse(BAD_NUMBER);
        }
        int all = glen.mills.groundInAll();
        if (all == 0) {
            return refuse(NONE_SUCH);
        }
        return tellFraction(glen.mills.ground[mill], all);
    }

    public boolean rain(int n, int k) {
        if (outside(n, 0, 12) || outside(k, 0, 12)) {
            return refuse(BAD_NUMBER);
        }
        return tellFraction(wetWays(n, k, glen.odds), power(MOST_ODDS, n));
    }

    public int copyHours(int tray) {
        int many = glen.things.count;
        int why = whyTooFew(tray, many);
        if (why != OK) {
            return refused(why);
        }
        for (int i = 0; i < many; i++) {
            trays.put(tray, i, glen.things.age[i]);
        }
        return given(many);
    }

    // ---- DAYS

    public int live(int seed) {
        if (outside(seed, 0, LAST_SEED)) {
            return refused(BAD_NUMBER);
        }
        if (!days.there) {
            return refused(NONE_SUCH);
        }
        int hoursAhead = glen.hour;
        int turnsAhead = glen.turns;
        int homesAhead = glen.things.homesInAll();
        life.liveThrough(glen, days, seed);
        latestLife[0] = life.missed;
        latestLife[1] = glen.hour - hoursAhead;
        latestLife[2] = glen.turns - turnsAhead;
        latestLife[3] = glen.things.homesInAll() - homesAhead;
        latestLife[4] = life.left;
        hasLived = true;
        return given(life.steps);
    }

    public int lived(int what) {
        if (outside(what, 0, latestLife.length - 1)) {
            return refused(BAD_NUMBER);
        }
        return hasLived ? given(latestLife[what]) : refused(NONE_SUCH);
    }

    public boolean mean(int seed, int many) {
        if (outside(seed, 0, LAST_SEED) || outside(many, 1, 20) || seed + many - 1 > LAST_SEED) {
            return refuse(BAD_NUMBER);
        }
        if (!days.there) {
            return refuse(NONE_SUCH);
        }
        int runs = days.drawsLots() ? many : 1;
        int homes = 0;
        for (int i = 0; i < runs; i++) {
            trial.copyFrom(glen);
            life.liveThrough(trial, days, seed + i);
            homes += trial.things.homesInAll();
        }
        return tellFraction(homes, runs);
    }

    // ---- MARKS

    public int mark() {
        if (marks >= MOST_MARKS) {
            return refused(ONE_TOO_MANY);
        }
        markedGlens[marks].copyFrom(glen);
        markedDays[marks].copyFrom(days);
        marks++;
        return given(marks);
    }

    public int undo() {
        if (marks <= 0) {
            return refused(NONE_SUCH);
        }
        marks--;
        glen.copyFrom(markedGlens[marks]);
        days.copyFrom(markedDays[marks]);
        return given(marks);
    }

    // ---- how calls answer, and why they can't

    private int given(int answer) {
        status = OK;
        return answer;
    }

    private int givenOrNone(int answer) {
        return answer == NONE ? refused(NONE_SUCH) : given(answer);
    }

    private int refused(int why) {
        status = why;
        return NONE;
    }

    private boolean accept() {
        status = OK;
        return true;
    }

    private boolean refuse(int why) {
        status = why;
        return false;
    }

    private static boolean outside(int number, int least, int most) {
        return number < least || number > most;
    }

    private boolean isThing(int thing) {
        return thing >= 0 && thing < glen.things.count;
    }

    private boolean isMill(int mill) {
        return mill >= 0 && mill < glen.mills.count;
    }

    private boolean isCell(int cell) {
        return cell >= 0 && cell < glen.size;
    }

    private int whyNoPlace(int tray, int place) {
        if (!trays.isTray(tray)) {
            return BAD_NUMBER;
        }
        if (trays.isMissing(tray)) {
            return TRAY_MISSING;
        }
        return place < 0 || place >= trays.length[tray] ? NO_PLACE : OK;
    }

    private int whyTooFew(int tray, int needed) {
        if (!trays.isTray(tray)) {
            return BAD_NUMBER;
        }
        if (trays.isMissing(tray)) {
            return TRAY_MISSING;
        }
        return trays.length[tray] < needed ? NO_PLACE : OK;
    }

    private int whyNotSoonest(int thing) {
        if (!isThing(thing)) {
            return BAD_NUMBER;
        }
        if (!glen.things.isFree(thing)) {
            return CANNOT_BE;
        }
        ahead.findSoonest(glen, trial, thing);
        return ahead.best == NONE ? NONE_SUCH : OK;
    }

    private int whyNotDriven(int mill, int thing, int other, int hours) {
        if (!isMill(mill) || !isThing(thing) || !isThing(other) || thing == other || outside(hours, 0, 48)) {
            return BAD_NUMBER;
        }
        if (!glen.things.isFree(thing) || !glen.things.isFree(other)) {
            return CANNOT_BE;
        }
        ahead.findDrive(glen, trial, mill, thing, other, hours);
        return OK;
    }

    private int whyNotMinded(int thing, int tray, int n) {
        if (!isThing(thing) || outside(n, 0, 20)) {
            return BAD_NUMBER;
        }
        int why = whyTooFew(tray, 2 * n);
        if (why != OK) {
            return why;
        }
        if (!Ahead.canBeSeen(trays.numbers[tray], n)) {
            return BAD_IN_TRAY;
        }
        ahead.findMinds(glen, trial, thing, trays.numbers[tray], n);
        return OK;
    }

    // ---- fractions

    private boolean tellFraction(long upper, long lower) {
        long divisor = commonDivisor(upper, lower);
        if (divisor > 0) {
            top = upper / divisor;
            bottom = lower / divisor;
        }
        return accept();
    }

    private static long commonDivisor(long upper, long lower) {
        long a = lower;
        long b = upper;
        for (int i = 0; i < 200 && b != 0; i++) {
            long rest = a % b;
            a = b;
            b = rest;
        }
        return a;
    }

    /** In how many of all 16 to the n ways k or more of n hours are wet. */
    private static long wetWays(int n, int k, int odds) {
        long wet = 0;
        long choices = 1;
        for (int j = 0; j <= n; j++) {
            if (j >= k) {
                wet += choices * power(odds, j) * power(MOST_ODDS - odds, n - j);
            }
            choices = choices * (n - j) / (j + 1);
        }
        return wet;
    }

    private static long power(long base, int times) {
        long product = 1;
        for (int i = 0; i < times; i++) {
            product *= base;
        }
        return product;
    }

    /** Rows of numbers of one sort each. */
    private static final class Trays {
        static final int MANY = 4;
        static final int LONGEST = 60;
        private static final int MISSING = -1;

        final int[] sort = {MISSING, MISSING, MISSING, MISSING};
        final int[] length = new int[MANY];
        final long[][] numbers = new long[MANY][LONGEST];

        boolean isTray(int tray) {
            return tray >= 0 && tray < MANY;
        }

        boolean isMissing(int tray) {
            return sort[tray] == MISSING;
        }

        void lay(int tray, int newSort, int many) {
            sort[tray] = newSort;
            length[tray] = many;
            for (int i = 0; i < many; i++) {
                numbers[tray][i] = 0;
            }
        }

        void put(int tray, int place, long v) {
            numbers[tray][place] = cut(sort[tray], v);
        }

        private static long cut(int sort, long v) {
            switch (sort) {
                case 0: return (byte) v;
                case 1: return (short) v;
                case 2: return (int) v;
                default: return v;
            }
        }
    }

    /** The things of a glen: what they are, where they are, for how long. */
    private static final class Things {
        static final int ASHORE = 0;
        static final int LYING = 1;
        static final int CARRIED = 2;
        static final int HOME = 3;

        int count = 0;
        final long[] name = new long[MOST_THINGS];
        final int[] weight = new int[MOST_THINGS];
        final int[] grip = new int[MOST_THINGS];
        final int[] mind = new int[MOST_THINGS];
        final int[] state = new int[MOST_THINGS];
        /** Where those lie that lie; 0 for others, so that like states look alike. */
        final int[] cell = new int[MOST_THINGS];
        /** For how many hours they have lain, are carried; 0 for others. */
        final int[] age = new int[MOST_THINGS];
        final int[] homes = new int[MOST_THINGS];

        void copyFrom(Things other) {
            count = other.count;
            System.arraycopy(other.name, 0, name, 0, MOST_THINGS);
            System.arraycopy(other.weight, 0, weight, 0, MOST_THINGS);
            System.arraycopy(other.grip, 0, grip, 0, MOST_THINGS);
            System.arraycopy(other.mind, 0, mind, 0, MOST_THINGS);
            copyPlacesFrom(other);
        }

        void copyPlacesFrom(Things other) {
            System.arraycopy(other.state, 0, state, 0, MOST_THINGS);
            System.arraycopy(other.cell, 0, cell, 0, MOST_THINGS);
            System.arraycopy(other.age, 0, age, 0, MOST_THINGS);
            System.arraycopy(other.homes, 0, homes, 0, MOST_THINGS);
        }

        /** One thing more, ashore; its number, or NONE if there is no room. */
        int addThing(long newName, int newWeight, int newGrip, int newMind) {
            if (count >= MOST_THINGS) {
                return NONE;
            }
            name[count] = newName;
            weight[count] = newWeight;
            grip[count] = newGrip;
            mind[count] = newMind;
            homes[count] = 0;
            bringAshore(count);
            count++;
            return count - 1;
        }

        int numberOf(long wanted) {
            for (int i = 0; i < count; i++) {
                if (name[i] == wanted) {
                    return i;
                }
            }
            return NONE;
        }

        /** Ashore or home: it can be tossed in. */
        boolean isFree(int thing) {
            return state[thing] == ASHORE || state[thing] == HOME;
        }

        boolean isLying(int thing) {
            return state[thing] == LYING;
        }

        boolean isRemembered(int thing) {
            return state[thing] == LYING && age[thing] >= mind[thing];
        }

        void throwInto(int thing, int where) {
            place(thing, LYING, where);
        }

        void bringAshore(int thing) {
            place(thing, ASHORE, 0);
        }

        private void place(int thing, int newState, int where) {
            state[thing] = newState;
            cell[thing] = where;
            age[thing] = 0;
        }

        /** Whose cell is the goal, or NONE. */
        int longestRemembered() {
            int longest = NONE;
            int longestAge = 0;
            for (int i = 0; i < count; i++) {
                if (state[i] == LYING && age[i] >= mind[i] && age[i] > longestAge) {
                    longest = i;
                    longestAge = age[i];
                }
            }
            return longest;
        }

        void takeUp(int at, int free) {
            int stillFree = free;
            for (int i = 0; i < count; i++) {
                if (state[i] == LYING && cell[i] == at && age[i] >= mind[i] && weight[i] <= stillFree) {
                    stillFree -= weight[i];
                    place(i, CARRIED, 0);
                }
            }
        }

        /** In the sea all that is carried is home; elsewhere what is gripped no longer slips. */
        void growOlder(int at, boolean inSea) {
            for (int i = 0; i < count; i++) {
                if (state[i] == LYING) {
                    age[i] += age[i] < MOST_AGE ? 1 : 0;
                } else if (state[i] == CARRIED && inSea) {
                    place(i, HOME, 0);
                    homes[i]++;
                } else if (state[i] == CARRIED) {
                    age[i]++;
                    if (age[i] >= grip[i]) {
                        place(i, LYING, at);
                    }
                }
            }
        }

        int carriedWeight() {
            int sum = 0;
            for (int i = 0; i < count; i++) {
                if (state[i] == CARRIED) {
                    sum += weight[i];
                }
            }
            return sum;
        }

        int weightOf(int set) {
            int sum = 0;
            for (int i = 0; i < count; i++) {
                if ((set >> i & 1) == 1) {
                    sum += weight[i];
                }
            }
            return sum;
        }

        int setThatIs(int wanted) {
            int set = 0;
            for (int i = 0; i < count; i++) {
                if (state[i] == wanted) {
                    set |= 1 << i;
                }
            }
            return set;
        }

        int setRemembered() {
            int set = 0;
            for (int i = 0; i < count; i++) {
                if (isRemembered(i)) {
                    set |= 1 << i;
                }
            }
            return set;
        }

        boolean areQuiet() {
            for (int i = 0; i < count; i++) {
                if (!isFree(i)) {
                    return false;
                }
            }
            return true;
        }

        int homesInAll() {
            int sum = 0;
            for (int i = 0; i < count; i++) {
                sum += homes[i];
            }
            return sum;
        }

        /** Where four things are and for how long, as one number of 52 bits. */
        long pictureFrom(int first) {
            long picture = 0;
            for (int i = first; i < first + 4 && i < count; i++) {
                picture = picture << 13 | state[i] << 11 | cell[i] << 7 | age[i];
            }
            return picture;
        }
    }

    /** The mills of a glen. */
    private static final class Mills {
        /** Kinds are the way by which a mill grinds (Glen.UP, Glen.DOWN), or this. */
        static final int BOTH = 2;

        int count = 0;
        final long[] name = new long[MOST_MILLS];
        final int[] cell = new int[MOST_MILLS];
        final int[] kind = new int[MOST_MILLS];
        final int[] ground = new int[MOST_MILLS];

        void copyFrom(Mills other) {
            count = other.count;
            System.arraycopy(other.name, 0, name, 0, MOST_MILLS);
            System.arraycopy(other.cell, 0, cell, 0, MOST_MILLS);
            System.arraycopy(other.kind, 0, kind, 0, MOST_MILLS);
            copyGroundFrom(other);
        }

        void copyGroundFrom(Mills other) {
            System.arraycopy(other.ground, 0, ground, 0, MOST_MILLS);
        }

        /** One mill more; its number, or NONE if there is no room. */
        int addMill(long newName, int newCell, int newKind) {
            if (count >= MOST_MILLS) {
                return NONE;
            }
            name[count] = newName;
            cell[count] = newCell;
            kind[count] = newKind;
            ground[count] = 0;
            count++;
            return count - 1;
        }

        int numberOf(long wanted) {
            for (int i = 0; i < count; i++) {
                if (name[i] == wanted) {
                    return i;
                }
            }
            return NONE;
        }

        void grindAt(int at, int way) {
            for (int i = 0; i < count; i++) {
                if (cell[i] == at && (kind[i] == BOTH || kind[i] == way)) {
                    ground[i]++;
                }
            }
        }

        int groundInAll() {
            int sum = 0;
            for (int i = 0; i < count; i++) {
                sum += ground[i];
            }
            return sum;
        }
    }

    /** The bed, the stream in it, its things and mills, and the hours that go by. */
    private static final class Glen {
        static final int UP = 0;
        static final int DOWN = 1;

        int size;
        int load;
        int odds;
        int at;
        int way;
        int hour;
        int turns;
        final Things things = new Things();
        final Mills mills = new Mills();

        Glen() {
            clear();
        }

        void clear() {
            size = 8;
            load = 10;
            odds = 4;
            at = 0;
            way = DOWN;
            hour = 0;
            turns = 0;
            things.count = 0;
            mills.count = 0;
        }

        void copyFrom(Glen other) {
            size = other.size;
            load = other.load;
            odds = other.odds;
            at = other.at;
            way = other.way;
            hour = other.hour;
            turns = other.turns;
            things.copyFrom(other.things);
            mills.copyFrom(other.mills);
        }

        /** Only what hours and tosses change: for one that was copied from the other ahead. */
        void goBackTo(Glen other) {
            at = other.at;
            way = other.way;
            hour = other.hour;
            turns = other.turns;
            things.copyPlacesFrom(other.things);
            mills.copyGroundFrom(other.mills);
        }

        int goalCell(int remembered) {
            return remembered == NONE ? size - 1 : things.cell[remembered];
        }

        /** One hour: whether the stream turned in it. */
        boolean passHour() {
            int remembered = things.longestRemembered();
            int goal = goalCell(remembered);
            int wanted = goal > at ? DOWN : UP;
            boolean turned = goal != at && way != wanted;
            if (turned) {
                way = wanted;
                turns++;
            } else if (goal != at) {
                at += way == DOWN ? 1 : -1;
                mills.grindAt(at, way);
            }
            if (remembered != NONE) {
                things.takeUp(at, load - things.carriedWeight());
            }
            things.growOlder(at, at == size - 1);
            hour++;
            return turned;
        }

        /** So many hours: how many turns there were in them. */
        int passHours(int many) {
            int before = turns;
            for (int i = 0; i < many; i++) {
                passHour();
            }
            return turns - before;
        }

        int hoursTillHome(int thing, int most) {
            for (int i = 0; i <= most; i++) {
                if (things.state[thing] == Things.HOME) {
                    return i;
                }
                passHour();
            }
            return NONE;
        }

        /** How many hours lie ahead of the next turn's, of so many. */
        int hoursTillTurn(int most) {
            for (int i = 0; i < most; i++) {
                if (passHour()) {
                    return i;
                }
            }
            return NONE;
        }

        int hoursTillQuiet(int most) {
            for (int i = 0; i <= most; i++) {
                if (things.areQuiet()) {
                    return i;
                }
                passHour();
            }
            return NONE;
        }

        int heaviestSet() {
            int lying = things.setThatIs(Things.LYING);
            int free = load - things.carriedWeight();
            int best = 0;
            int bestWeight = 0;
            for (int set = 1; set <= lying; set++) {
                if ((set & ~lying) != 0) {
                    continue;
                }
                int weight = things.weightOf(set);
                boolean better = weight > bestWeight
                        || weight == bestWeight && Integer.bitCount(set) < Integer.bitCount(best);
                if (weight <= free && better) {
                    best = set;
                    bestWeight = weight;
                }
            }
            return best;
        }
    }

    /** The tape, and its first bytes as tokens, one at a time, with the first fault. */
    private static final class Text {
        static final long NO_NAME = 0;
        static final int LONGEST = 900;

        static final int END = 0;
        static final int WORD = 1;
        static final int NUMBER = 2;
        static final int SIGN = 3;
        static final int BAD = 4;

        /** The words that are no names, by the numbers below. */
        private static final String KEYWORDS = "long load odds stream up down both thing weighs grips minds lies mill at hour throw fetch any when runs ground loop end stop ";
        private static final int KEYWORD_COUNT = 24;
        static final int LONG = 0;
        static final int LOAD = 1;
        static final int ODDS = 2;
        static final int STREAM = 3;
        static final int UP = 4;
        static final int DOWN = 5;
        static final int BOTH = 6;
        static final int THING = 7;
        static final int WEIGHS = 8;
        static final int GRIPS = 9;
        static final int MINDS = 10;
        static final int LIES = 11;
        static final int MILL = 12;
        static final int AT = 13;
        static final int HOUR = 14;
        static final int THROW = 15;
        static final int FETCH = 16;
        static final int ANY = 17;
        static final int WHEN = 18;
        static final int RUNS = 19;
        static final int GROUND = 20;
        static final int LOOP = 21;
        static final int CLOSE = 22;
        static final int STOP = 23;

        private final byte[] tape = new byte[LONGEST];
        int taped = 0;
        private final long[] keywords = new long[KEYWORD_COUNT];
        private int length = 0;
        private int next = 0;

        /** Of the token that is looked at. */
        int kind = END;
        private int start = 0;
        /** The number; the sign; of a word which keyword it is, or NONE. */
        int value = NONE;
        /** The letters of a word that may be a name, else NO_NAME. */
        private long letters = NO_NAME;

        int fault = NONE;
        int place = NONE;

        Text() {
            long word = NO_NAME;
            int found = 0;
            for (int i = 0; i < KEYWORDS.length() && found < KEYWORD_COUNT; i++) {
                char sign = KEYWORDS.charAt(i);
                if (sign == ' ') {
                    keywords[found] = word;
                    found++;
                    word = NO_NAME;
                } else {
                    word = withLetter(word, sign);
                }
            }
        }

        private static long withLetter(long word, int letter) {
            return word << 5 | letter - 'a' + 1;
        }

        boolean hasRoomFor(int bytes) {
            return taped + bytes <= LONGEST;
        }

        void append(int four) {
            for (int shift = 24; shift >= 0 && taped < LONGEST; shift -= 8) {
                tape[taped] = (byte) (four >> shift);
                taped++;
            }
        }

        /** The first n bytes are read from now on; the tape is empty for what comes next. */
        void open(int n) {
            length = Math.max(0, Math.min(n, LONGEST));
            taped = 0;
            next = 0;
            fault = 0;
            place = NONE;
            advance();
        }

        private static boolean isLetter(int sign) {
            return sign >= 'a' && sign <= 'z';
        }

        private static boolean isDigit(int sign) {
            return sign >= '0' && sign <= '9';
        }

        void advance() {
            while (next < length && (tape[next] == 10 || tape[next] == ' ')) {
                next++;
            }
            start = next;
            value = NONE;
            letters = NO_NAME;
            int sign = next < length ? tape[next] : NONE;
            if (next >= length) {
                kind = END;
            } else if (isLetter(sign)) {
                takeWord();
            } else if (isDigit(sign)) {
                takeNumber();
            } else if (sign == ';' || sign == '<' || sign == '>' || sign == '=') {
                kind = SIGN;
                value = sign;
                next++;
            } else {
                kind = BAD;
            }
        }

        private void takeWord() {
            kind = WORD;
            long word = NO_NAME;
            while (next < length && isLetter(tape[next])) {
                word = withLetter(word, tape[next]);
                next++;
            }
            if (next - start > 8) {
                return;
            }
            letters = word;
            for (int i = 0; i < KEYWORD_COUNT; i++) {
                if (keywords[i] == word) {
                    value = i;
                }
            }
        }

        private void takeNumber() {
            int number = 0;
            while (next < length && isDigit(tape[next])) {
                if (next - start < 4) {
                    number = number * 10 + tape[next] - '0';
                }
                next++;
            }
            kind = next - start > 4 ? BAD : NUMBER;
            value = number;
        }

        /** The first fault stays; a token that can't be one is a fault of kind 1 wherever it is. */
        void fail(int why) {
            if (fault == 0) {
                fault = kind == BAD ? 1 : why;
                place = start;
            }
        }

        boolean isGoingOn() {
            return fault == 0 && kind != END;
        }

        boolean isWord(int keyword) {
            return fault == 0 && kind == WORD && value == keyword;
        }

        int keyword() {
            return kind == WORD ? value : NONE;
        }

        void takeKeyword(int keyword) {
            if (isWord(keyword)) {
                advance();
            } else {
                fail(2);
            }
        }

        void takeSemicolon() {
            if (kind == SIGN && value == ';' && fault == 0) {
                advance();
            } else {
                fail(2);
            }
        }

        /** A number of these, or the least of them behind a fault. */
        int takeNumberOf(int least, int most) {
            if (fault != 0 || kind != NUMBER) {
                fail(2);
                return least;
            }
            if (value < least || value > most) {
                fail(4);
                return least;
            }
            int number = value;
            advance();
            return number;
        }

        /** The letters of the name that stands there, which is looked at still. */
        long nameHere() {
            if (fault != 0 || kind != WORD || value != NONE || letters == NO_NAME) {
                fail(2);
                return NO_NAME;
            }
            return letters;
        }
    }

    /** Reads a text as a glen. */
    private static final class GlenReader {
        private Text text;
        private Glen glen;
        /** The parts that may be told once alone and were, as bits by their words. */
        private int toldOnce;

        void readInto(Glen target, Text source) {
            text = source;
            glen = target;
            toldOnce = 0;
            glen.clear();
            for (int i = 0; i < Text.LONGEST && text.isGoingOn(); i++) {
                readPart();
            }
        }

        private void readPart() {
            switch (text.keyword()) {
                case Text.LONG:
                    readLong();
                    break;
                case Text.LOAD:
                    takeOnce(Text.LOAD);
                    glen.load = text.takeNumberOf(1, MOST_LOAD);
                    break;
                case Text.ODDS:
                    takeOnce(Text.ODDS);
                    glen.odds = text.takeNumberOf(0, MOST_ODDS);
                    break;
                case Text.STREAM:
                    readStream();
                    break;
                case Text.THING:
                    readThing();
                    break;
                case Text.MILL:
                    readMill();
                    break;
                default:
                    text.fail(2);
            }
            text.takeSemicolon();
        }

        private boolean wasTold(int keyword) {
            return (toldOnce >> keyword & 1) == 1;
        }

        private void takeOnce(int keyword) {
            if (wasTold(keyword)) {
                text.fail(5);
            }
            toldOnce |= 1 << keyword;
            text.advance();
        }

        private void readLong() {
            if (wasTold(Text.STREAM) || glen.things.count > 0 || glen.mills.count > 0) {
                text.fail(5);
            }
            takeOnce(Text.LONG);
            glen.size = text.takeNumberOf(2, MOST_CELLS);
        }

        private void readStream() {
            takeOnce(Text.STREAM);
            glen.at = text.takeNumberOf(0, glen.size - 1);
            if (text.isWord(Text.UP)) {
                glen.way = Glen.UP;
                text.advance();
            }
        }

        private void readThing() {
            if (glen.things.count >= MOST_THINGS) {
                text.fail(6);
            }
            text.takeKeyword(Text.THING);
            long name = takeNewName();
            text.takeKeyword(Text.WEIGHS);
            int weight = text.takeNumberOf(0, MOST_WEIGHT);
            text.takeKeyword(Text.GRIPS);
            int grip = text.takeNumberOf(1, MOST_GRIP);
            text.takeKeyword(Text.MINDS);
            int mind = text.takeNumberOf(1, MOST_MIND);
            int thing = glen.things.addThing(name, weight, grip, mind);
            if (text.isWord(Text.LIES) && thing != NONE) {
                text.advance();
                glen.things.throwInto(thing, text.takeNumberOf(0, glen.size - 1));
            }
        }

        private void readMill() {
            if (glen.mills.count >= MOST_MILLS) {
                text.fail(6);
            }
            text.takeKeyword(Text.MILL);
            long name = takeNewName();
            text.takeKeyword(Text.AT);
            int cell = text.takeNumberOf(0, glen.size - 1);
            glen.mills.addMill(name, cell, takeKind());
        }

        private long takeNewName() {
            long name = text.nameHere();
            if (glen.things.numberOf(name) != NONE || glen.mills.numberOf(name) != NONE) {
                text.fail(3);
            }
            text.advance();
            return name;
        }

        private int takeKind() {
            int keyword = text.keyword();
            if (keyword != Text.UP && keyword != Text.DOWN && keyword != Text.BOTH) {
                text.fail(2);
            }
            text.advance();
            if (keyword == Text.BOTH) {
                return Mills.BOTH;
            }
            return keyword == Text.UP ? Glen.UP : Glen.DOWN;
        }
    }

    /** The days: steps and ends as rows, one entry each, as they stand. */
    private static final class Days {
        static final int MOST_STEPS = 30;
        static final int MOST_ENTRIES = 60;

        static final int HOUR = 0;
        static final int THROW = 1;
        static final int FETCH = 2;
        static final int ANY = 3;
        static final int WHEN_LIES = 4;
        static final int WHEN_RUNS = 5;
        static final int WHEN_AT = 6;
        static final int WHEN_GROUND = 7;
        static final int LOOP = 8;
        static final int STOP = 9;
        static final int END = 10;

        /** Days without a step are there, too, if they were told. */
        boolean there = false;
        int steps = 0;
        int count = 0;
        final int[] kind = new int[MOST_ENTRIES];
        /** The thing, mill, way, hours or times. */
        final int[] which = new int[MOST_ENTRIES];
        /** The cell, or what is compared with. */
        final int[] much = new int[MOST_ENTRIES];
        /** The sign by which is compared. */
        final int[] sign = new int[MOST_ENTRIES];
        /** Of a when and a loop its end, of an end its when or loop. */
        final int[] partner = new int[MOST_ENTRIES];

        void clear() {
            there = false;
            steps = 0;
            count = 0;
        }

        void copyFrom(Days other) {
            there = other.there;
            steps = other.steps;
            count = other.count;
            System.arraycopy(other.kind, 0, kind, 0, count);
            System.arraycopy(other.which, 0, which, 0, count);
            System.arraycopy(other.much, 0, much, 0, count);
            System.arraycopy(other.sign, 0, sign, 0, count);
            System.arraycopy(other.partner, 0, partner, 0, count);
        }

        /** One entry more: its number. */
        int addEntry(int newKind, int newWhich, int newMuch, int newSign) {
            if (count >= MOST_ENTRIES) {
                return MOST_ENTRIES - 1;
            }
            kind[count] = newKind;
            which[count] = newWhich;
            much[count] = newMuch;
            sign[count] = newSign;
            partner[count] = count;
            count++;
            return count - 1;
        }

        void pair(int opener, int end) {
            partner[opener] = end;
            partner[end] = opener;
        }

        /** Whether a seed matters. */
        boolean drawsLots() {
            for (int i = 0; i < count; i++) {
                if (kind[i] == ANY) {
                    return true;
                }
            }
            return false;
        }
    }

    /** Reads a text as days, by the names of a glen. */
    private static final class DaysReader {
        private static final int DEEPEST = 3;

        final Days days = new Days();
        private Text text;
        private Glen glen;
        /** The whens and loops that wait for their ends. */
        private final int[] open = new int[DEEPEST];
        private int depth;

        void readFor(Glen named, Text source) {
            text = source;
            glen = named;
            depth = 0;
            days.clear();
            days.there = true;
            for (int i = 0; i < LONGEST_DAYS && text.isGoingOn(); i++) {
                int keyword = text.keyword();
                if (keyword == Text.CLOSE && depth > 0) {
                    text.advance();
                    closeLatest();
                } else {
                    lookAtStep(keyword);
                    text.advance();
                    addStep(keyword, readRest(keyword));
                }
                text.takeSemicolon();
            }
            if (depth > 0) {
                text.fail(2);
            }
        }

        private void closeLatest() {
            depth--;
            days.pair(open[depth], days.addEntry(Days.END, 0, 0, 0));
        }

        private void lookAtStep(int keyword) {
            if (!isStep(keyword)) {
                text.fail(2);
            } else if (days.steps >= Days.MOST_STEPS) {
                text.fail(6);
            } else if (opens(keyword) && depth >= DEEPEST) {
                text.fail(7);
            }
        }

        private void addStep(int keyword, int entry) {
            days.steps++;
            if (opens(keyword) && depth < DEEPEST) {
                open[depth] = entry;
                depth++;
            }
        }

        private static boolean opens(int keyword) {
            return keyword == Text.WHEN || keyword == Text.LOOP;
        }

        private static boolean isStep(int keyword) {
            switch (keyword) {
                case Text.HOUR:
                case Text.THROW:
                case Text.FETCH:
                case Text.ANY:
                case Text.WHEN:
                case Text.LOOP:
                case Text.STOP:
                    return true;
                default:
                    return false;
            }
        }

        /** What stands behind a step's word, but its semicolon: the entry. */
        private int readRest(int keyword) {
            switch (keyword) {
                case Text.HOUR:
                    return days.addEntry(Days.HOUR, text.takeNumberOf(1, 24), 0, 0);
                case Text.THROW:
                    // Java looks at arguments from the left, as the text is read.
                    return days.addEntry(Days.THROW, takeThing(), text.takeNumberOf(0, glen.size - 1), 0);
                case Text.FETCH:
                    return days.addEntry(Days.FETCH, takeThing(), 0, 0);
                case Text.ANY:
                    return days.addEntry(Days.ANY, 0, 0, 0);
                case Text.WHEN:
                    return readTest();
                case Text.LOOP:
                    return days.addEntry(Days.LOOP, text.takeNumberOf(1, 99), 0, 0);
                default:
                    return days.addEntry(Days.STOP, 0, 0, 0);
            }
        }

        private int readTest() {
            int keyword = text.keyword();
            if (!isTest(keyword)) {
                text.fail(2);
            }
            text.advance();
            if (keyword == Text.LIES) {
                return days.addEntry(Days.WHEN_LIES, takeThing(), 0, 0);
            }
            if (keyword == Text.RUNS) {
                return days.addEntry(Days.WHEN_RUNS, takeWay(), 0, 0);
            }
            int mill = keyword == Text.GROUND ? takeMill() : NONE;
            int sign = takeCompares();
            if (keyword == Text.GROUND) {
                return days.addEntry(Days.WHEN_GROUND, mill, text.takeNumberOf(0, LAST_HOUR), sign);
            }
            return days.addEntry(Days.WHEN_AT, NONE, text.takeNumberOf(0, MOST_CELLS - 1), sign);
        }

        private static boolean isTest(int keyword) {
            return keyword == Text.LIES || keyword == Text.RUNS || keyword == Text.AT || keyword == Text.GROUND;
        }

        private int takeThing() {
            int thing = glen.things.numberOf(text.nameHere());
            if (thing == NONE) {
                text.fail(3);
            }
            text.advance();
            return thing;
        }

        private int takeMill() {
            int mill = glen.mills.numberOf(text.nameHere());
            if (mill == NONE) {
                text.fail(3);
            }
            text.advance();
            return mill;
        }

        private int takeWay() {
            int keyword = text.keyword();
            if (keyword != Text.UP && keyword != Text.DOWN) {
                text.fail(2);
            }
            text.advance();
            return keyword == Text.UP ? Glen.UP : Glen.DOWN;
        }

        private int takeCompares() {
            int sign = text.value;
            if (text.kind != Text.SIGN || sign == ';') {
                text.fail(2);
            }
            text.advance();
            return sign;
        }
    }

    /** Goes through days step by step. */
    private static final class Life {
        private static final int MOST_STEPS = 300;
        /** Far above the steps and the ends between them that any days can come to. */
        private static final int GUARD = 1000000;

        int steps;
        int missed;
        int left;
        private int lot;
        private Glen glen;
        private Days days;
        /** How often the loops go round still, by entry. */
        private final int[] rounds = new int[Days.MOST_ENTRIES];

        void liveThrough(Glen where, Days plan, int seed) {
            glen = where;
            days = plan;
            lot = seed;
            steps = 0;
            missed = 0;
            left = 0;
            int entry = 0;
            for (int i = 0; i < GUARD && entry >= 0 && entry < days.count; i++) {
                entry = days.kind[entry] == Days.END ? behindEnd(entry) : behindStep(entry);
            }
        }

        private int behindEnd(int entry) {
            int opener = days.partner[entry];
            if (days.kind[opener] != Days.LOOP) {
                return entry + 1;
            }
            rounds[opener]--;
            return rounds[opener] > 0 ? opener + 1 : entry + 1;
        }

        /** Does a step: the entry that comes next, or NONE if the days are over. */
        private int behindStep(int entry) {
            if (steps >= MOST_STEPS) {
                left = 1;
                return NONE;
            }
            steps++;
            int which = days.which[entry];
            switch (days.kind[entry]) {
                case Days.HOUR:
                    letPass(which);
                    break;
                case Days.THROW:
                    throwThing(which, days.much[entry]);
                    break;
                case Days.FETCH:
                    fetchThing(which);
                    break;
                case Days.ANY:
                    throwAny();
                    break;
                case Days.LOOP:
                    rounds[entry] = which;
                    break;
                case Days.STOP:
                    return NONE;
                default:
                    return holds(entry) ? entry + 1 : days.partner[entry] + 1;
            }
            return entry + 1;
        }

        private void letPass(int hours) {
            if (glen.hour + hours > LAST_HOUR) {
                missed++;
            } else {
                glen.passHours(hours);
            }
        }

        private void throwThing(int thing, int cell) {
            if (thing >= glen.things.count || !glen.things.isFree(thing)) {
                missed++;
            } else {
                glen.things.throwInto(thing, cell);
            }
        }

        private void fetchThing(int thing) {
            if (thing >= glen.things.count || !glen.things.isLying(thing)) {
                missed++;
            } else {
                glen.things.bringAshore(thing);
            }
        }

        private void throwAny() {
            if (glen.things.count <= 0) {
                missed++;
                return;
            }
            int thing = draw(glen.things.count);
            int cell = draw(glen.size);
            throwThing(thing, cell);
        }

        private int draw(int many) {
            lot = (lot * 3169 + 11393) % 65536;
            return many > 0 ? lot / 8 % many : 0;
        }

        private boolean holds(int entry) {
            int which = days.which[entry];
            switch (days.kind[entry]) {
                case Days.WHEN_LIES:
                    return which < glen.things.count && glen.things.isLying(which);
                case Days.WHEN_RUNS:
                    return glen.way == which;
                case Days.WHEN_AT:
                    return compares(glen.at, days.sign[entry], days.much[entry]);
                default:
                    return which < glen.mills.count
                            && compares(glen.mills.ground[which], days.sign[entry], days.much[entry]);
            }
        }

        private static boolean compares(int number, int sign, int much) {
            if (sign == '<') {
                return number < much;
            }
            return sign == '>' ? number > much : number == much;
        }
    }

    /** What will be, by what is tossed in, by what mind. */
    private static final class Ahead {
        private static final int RING_HOURS = 200;

        /** The number that was sought, or NONE, with the cells for it. */
        int best;
        int firstCell;
        int secondCell;
        int waited;
        private final long[] fewThings = new long[RING_HOURS + 1];
        private final long[] otherThings = new long[RING_HOURS + 1];
        /** In which of the hours ahead the stream turns, as bits, by each mind. */
        private final long[] turnsBy = new long[MOST_MIND + 1];
        private final boolean[] fits = new boolean[MOST_MIND + 1];

        int ringOf(Glen run) {
            for (int i = 0; i <= RING_HOURS; i++) {
                fewThings[i] = (run.things.pictureFrom(0) << 4 | run.at) << 1 | run.way;
                otherThings[i] = run.things.pictureFrom(4);
                for (int j = i - 1; j >= 0; j--) {
                    if (fewThings[j] == fewThings[i] && otherThings[j] == otherThings[i]) {
                        return i - j;
                    }
                }
                run.passHour();
            }
            return NONE;
        }

        int cellToTurnIn(Glen now, Glen run, int thing, int hour) {
            run.copyFrom(now);
            for (int cell = 0; cell < now.size; cell++) {
                run.goBackTo(now);
                run.things.throwInto(thing, cell);
                if (run.hoursTillTurn(hour + 1) == hour) {
                    return cell;
                }
            }
            return NONE;
        }

        void findSoonest(Glen now, Glen run, int thing) {
            best = NONE;
            firstCell = NONE;
            run.copyFrom(now);
            for (int cell = 0; cell < now.size; cell++) {
                run.goBackTo(now);
                run.things.throwInto(thing, cell);
                int hours = run.hoursTillHome(thing, best == NONE ? FAR_AHEAD : best - 1);
                if (hours != NONE) {
                    best = hours;
                    firstCell = cell;
                }
            }
        }

        void findDrive(Glen now, Glen run, int mill, int thing, int other, int hours) {
            best = NONE;
            run.copyFrom(now);
            for (int first = 0; first < now.size; first++) {
                for (int second = 0; second < now.size; second++) {
                    run.goBackTo(now);
                    run.things.throwInto(thing, first);
                    run.things.throwInto(other, second);
                    run.passHours(hours);
                    int ground = run.mills.ground[mill] - now.mills.ground[mill];
                    if (ground > best) {
                        best = ground;
                        firstCell = first;
                        secondCell = second;
                    }
                }
            }
        }

        static boolean canBeSeen(long[] seen, int n) {
            for (int i = 0; i < n; i++) {
                long hours = seen[2 * i];
                long turned = seen[2 * i + 1];
                if (hours < 0 || hours > NEAR_AHEAD || turned < 0 || turned > 1) {
                    return false;
                }
            }
            return true;
        }

        void findMinds(Glen now, Glen run, int thing, long[] seen, int n) {
            run.copyFrom(now);
            for (int mind = 1; mind <= MOST_MIND; mind++) {
                run.goBackTo(now);
                run.things.mind[thing] = mind;
                turnsBy[mind] = 0;
                for (int hour = 0; hour <= NEAR_AHEAD; hour++) {
                    if (run.passHour()) {
                        turnsBy[mind] |= 1L << hour;
                    }
                }
                fits[mind] = fitsAll(turnsBy[mind], seen, n);
            }
        }

        private static boolean fitsAll(long turned, long[] seen, int n) {
            for (int i = 0; i < n; i++) {
                if ((turned >> (int) seen[2 * i] & 1) != seen[2 * i + 1]) {
                    return false;
                }
            }
            return true;
        }

        int countMinds() {
            int count = 0;
            for (int mind = 1; mind <= MOST_MIND; mind++) {
                count += fits[mind] ? 1 : 0;
            }
            return count;
        }

        int leastMind() {
            for (int mind = 1; mind <= MOST_MIND; mind++) {
                if (fits[mind]) {
                    return mind;
                }
            }
            return NONE;
        }

        int greatestMind() {
            for (int mind = MOST_MIND; mind >= 1; mind--) {
                if (fits[mind]) {
                    return mind;
                }
            }
            return NONE;
        }

        /** The hour that parts those that fit the best; NONE if there are fewer than two. */
        int bestQuestion() {
            int all = countMinds();
            if (all < 2) {
                return NONE;
            }
            int least = all + 1;
            int question = NONE;
            for (int hour = 0; hour <= NEAR_AHEAD; hour++) {
                int turning = countTurning(hour);
                int greater = Math.max(turning, all - turning);
                if (greater < least) {
                    least = greater;
                    question = hour;
                }
            }
            return question;
        }

        private int countTurning(int hour) {
            int count = 0;
            for (int mind = 1; mind <= MOST_MIND; mind++) {
                if (fits[mind] && (turnsBy[mind] >> hour & 1) == 1) {
                    count++;
                }
            }
            return count;
        }

        void sail(Glen run, int cell, int other) {
            best = NONE;
            waited = NONE;
            for (int i = 0; i <= FAR_AHEAD && best == NONE; i++) {
                if (waited == NONE && run.at == cell) {
                    waited = i;
                }
                if (waited != NONE && run.at == other) {
                    best = i;
                }
                run.passHour();
            }
        }
    }

    /** The game of two farms, each by its mill. */
    private static final class Game {
        private static final int TURN_HOURS = 6;
        /** In 12 hours a mill grinds 12 times at most. */
        private static final int BELOW_ANY_LEAD = -100;

        /** The lead of the first by best play, with what it does first (NONE: nothing). */
        int best;
        int bestThing;
        int bestCell;
        private Glen now;
        private int mill;
        private int other;
        private int turns;
        private final Glen behindFirst = new Glen();
        private final Glen behindSecond = new Glen();

        void play(Glen glen, int first, int second, int many) {
            now = glen;
            mill = first;
            other = second;
            turns = many;
            best = many == 0 ? 0 : BELOW_ANY_LEAD;
            bestThing = NONE;
            bestCell = NONE;
            if (many == 0) {
                return;
            }
            behindFirst.copyFrom(now);
            behindSecond.copyFrom(now);
            for (int thing = 0; thing < now.things.count; thing++) {
                for (int cell = 0; cell < now.size && now.things.isFree(thing); cell++) {
                    weighMove(thing, cell);
                }
            }
            weighMove(NONE, NONE);
        }

        private void weighMove(int thing, int cell) {
            takeTurn(now, behindFirst, thing, cell);
            int value = turns == 1 ? leadIn(behindFirst) : worstReply();
            if (value > best) {
                best = value;
                bestThing = thing;
                bestCell = cell;
            }
        }

        private static void takeTurn(Glen from, Glen to, int thing, int cell) {
            to.goBackTo(from);
            if (thing != NONE) {
                to.things.throwInto(thing, cell);
            }
            for (int i = 0; i < TURN_HOURS; i++) {
                to.passHour();
            }
        }

        private int leadIn(Glen then) {
            int first = then.mills.ground[mill] - now.mills.ground[mill];
            int second = then.mills.ground[other] - now.mills.ground[other];
            return first - second;
        }

        /** Ends early once the move can't be better than the best: how bad it is matters no more. */
        private int worstReply() {
            takeTurn(behindFirst, behindSecond, NONE, NONE);
            int worst = leadIn(behindSecond);
            for (int thing = 0; thing < now.things.count; thing++) {
                if (!behindFirst.things.isFree(thing) || comesToMindTooLate(thing)) {
                    continue;
                }
                for (int cell = 0; cell < now.size && worst > best; cell++) {
                    takeTurn(behindFirst, behindSecond, thing, cell);
                    worst = Math.min(worst, leadIn(behindSecond));
                }
            }
            return worst;
        }

        /** Tossed in the last turn it is as good as nothing. */
        private boolean comesToMindTooLate(int thing) {
            return now.things.mind[thing] >= TURN_HOURS;
        }
    }
}
