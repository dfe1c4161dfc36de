import java.util.function.Consumer;
import java.util.function.Supplier;
import java.util.function.ToIntFunction;
import java.util.function.ToLongFunction;

/**
 * "STATUS of a call is the first of these that holds": each call with each status from 2 on that the document
 * names in its brackets, with two reasons at once where there can be two, and that it changes nothing else.
 * (Status 1 of each number by itself: EdgesOfNumbersTest.)
 */
public final class EdgesOfStatusTest {
    private static final int H = House.HOME;
    private static final int C = House.CARRIED;
    private static final int L = House.LIES;
    private static final int S = House.ASHORE;
    private static final int T = House.ASHORE_TOO;
    private static final int FEW = House.FEW;
    private static final int SIXTY = House.SIXTY;
    private static final int WIDE = House.WIDE;
    private static final int NO_TRAY = House.MISSING;

    public static void main(String[] args) {
        trays();
        copies();
        done();
        lastHour();
        full();
        ahead();
        thrown();
        seen();
        boats();
        games();
        shares();
        lives();
        marks();
        faults();
        questionsChangeNothing();
        callsWithoutStatus();
        Checks.end();
    }

    private static void refused(String what, Supplier<ForgetStream> make, ToLongFunction<ForgetStream> call, int status) {
        ForgetStream x = make.get();
        Checks.due(what, call.applyAsLong(x), ForgetStream.NONE);
        Checks.due(what + ": status", x.status(), status);
        Checks.same(what + " changes nothing", House.look(x), House.look(make.get()));
    }

    /** false is told as NONE here, so that all refusals are alike. */
    private static int bool(boolean answer) {
        return answer ? 1 : ForgetStream.NONE;
    }

    private static void refused(String what, ToLongFunction<ForgetStream> call, int status) {
        refused(what, House::full, call, status);
    }

    private static Supplier<ForgetStream> house(Consumer<ForgetStream> more) {
        return () -> {
            ForgetStream x = House.full();
            more.accept(x);
            return x;
        };
    }

    private static Supplier<ForgetStream> glen(String text) {
        return () -> Checks.with(text);
    }

    private static void trays() {
        refused("6: 2, missing", x -> bool(x.write(NO_TRAY, 0, 1)), 2);
        refused("6: 2 ahead of 3, place -1", x -> bool(x.write(NO_TRAY, -1, 1)), 2);
        refused("6: 2 ahead of 3, place 60", x -> bool(x.write(NO_TRAY, 60, 1)), 2);
        refused("6: 1 ahead of 3", x -> bool(x.write(4, -1, 1)), 1);
        refused("6: 3, a place behind the last", x -> bool(x.write(FEW, 4, 1)), 3);
        refused("6: 3, a place below 0", x -> bool(x.write(FEW, -1, 1)), 3);
        refused("7: 2, missing", x -> x.read(NO_TRAY, 0), 2);
        refused("7: 2 ahead of 3, place -1", x -> x.read(NO_TRAY, -1), 2);
        refused("7: 2 ahead of 3, place 60", x -> x.read(NO_TRAY, 60), 2);
        refused("7: 1 ahead of 3", x -> x.read(-1, 99), 1);
        refused("7: 3, a place behind the last", x -> x.read(WIDE, 8), 3);
        refused("7: 3, a place below 0", x -> x.read(WIDE, -1), 3);
        refused("8: 1 ahead of 2, place -1", x -> bool(x.pour(NO_TRAY, -1, FEW, 0, 1)), 1);
        refused("8: 1 ahead of 2, at -1", x -> bool(x.pour(FEW, 0, NO_TRAY, -1, 1)), 1);
        refused("8: 1 ahead of 2, many -1", x -> bool(x.pour(NO_TRAY, 0, FEW, 0, -1)), 1);
        refused("8: 1 ahead of 2, no such tray to come to", x -> bool(x.pour(NO_TRAY, 0, 4, 0, 1)), 1);
        refused("8: 1 ahead of 2, no such tray to come from", x -> bool(x.pour(-1, 0, NO_TRAY, 0, 1)), 1);
        refused("8: 1 ahead of 8, place -1", x -> bool(x.pour(FEW, -1, WIDE, 0, 1)), 1);
        refused("8: 1 ahead of 3, at -1", x -> bool(x.pour(FEW, 99, SIXTY, -1, 1)), 1);
        refused("8: 2, missing to come from", x -> bool(x.pour(NO_TRAY, 0, FEW, 0, 1)), 2);
        refused("8: 2, missing to come to", x -> bool(x.pour(FEW, 0, NO_TRAY, 0, 1)), 2);
        refused("8: 2, both missing", x -> bool(x.pour(NO_TRAY, 0, NO_TRAY, 0, 0)), 2);
        refused("8: 2 ahead of 3", x -> bool(x.pour(NO_TRAY, 99, FEW, 0, 1)), 2);
        refused("8: 2 ahead of 3, to come to", x -> bool(x.pour(FEW, 99, NO_TRAY, 99, 99)), 2);
        refused("8: 8, unlike sorts", x -> bool(x.pour(FEW, 0, WIDE, 0, 1)), 8);
        refused("8: 8, not even none", x -> bool(x.pour(WIDE, 0, FEW, 0, 0)), 8);
        refused("8: 8 ahead of 3, a place", x -> bool(x.pour(FEW, 99, WIDE, 0, 1)), 8);
        refused("8: 8 ahead of 3, at", x -> bool(x.pour(WIDE, 0, FEW, 99, 1)), 8);
        refused("8: 8 ahead of 3, many", x -> bool(x.pour(WIDE, 0, SIXTY, 0, 9)), 8);
        refused("8: 3, one more than there are to take", x -> bool(x.pour(FEW, 0, SIXTY, 0, 5)), 3);
        refused("8: 3, one more than there are from a place on", x -> bool(x.pour(FEW, 2, SIXTY, 0, 3)), 3);
        refused("8: 3, one more than there is room for", x -> bool(x.pour(SIXTY, 0, FEW, 0, 5)), 3);
        refused("8: 3, one more than there is room for from a place on", x -> bool(x.pour(SIXTY, 0, FEW, 2, 3)), 3);
        refused("8: 3, its own, too", x -> bool(x.pour(FEW, 0, FEW, 1, 4)), 3);
        refused("8: 3, a place as far as can be", x -> bool(x.pour(FEW, Integer.MAX_VALUE, SIXTY, 0, 1)), 3);
        refused("8: 3, as many as can be", x -> bool(x.pour(FEW, 1, SIXTY, 1, Integer.MAX_VALUE)), 3);
    }

    private static void copies() {
        refused("51: 2, missing", x -> x.copyHours(NO_TRAY), 2);
        refused("51: 3, four places for five things", x -> x.copyHours(FEW), 3);
        refused("51: 3, an empty tray", house(x -> x.tray(FEW, 0, 0)), x -> x.copyHours(FEW), 3);
    }

    private static void done() {
        refused("15: 6, it is home", x -> x.cellOf(H), 6);
        refused("15: 6, it is ashore", x -> x.cellOf(S), 6);
        refused("18: 6, none is remembered", x -> x.goalThing(), 6);
        refused("20: 7, it lies", x -> bool(x.toss(L, 0)), 7);
        refused("20: 7, it lies there already", x -> bool(x.toss(L, 2)), 7);
        refused("20: 7, it is carried", x -> bool(x.toss(C, 0)), 7);
        refused("20: 1 ahead of 7, cell 5", x -> bool(x.toss(L, 5)), 1);
        refused("20: 1 ahead of 7, cell -1", x -> bool(x.toss(C, -1)), 1);
        refused("21: 7, it is carried", x -> x.fetch(C), 7);
        refused("21: 7, it is ashore", x -> x.fetch(S), 7);
        refused("21: 7, it is home", x -> x.fetch(H), 7);
    }

    /** HOUR 9,999 in a glen where nothing moves any more, or so many ahead of it. */
    private static Supplier<ForgetStream> lateBy(int hours) {
        return () -> {
            ForgetStream x = Checks.with("thing a weighs 1 grips 1 minds 1;mill m at 7 both;");
            for (int i = 0; i < 59; i++) {
                x.hour(168);
            }
            x.hour(9999 - 59 * 168 - hours);
            return x;
        };
    }

    private static void lastHour() {
        refused("19: 4, an hour behind 9,999", lateBy(0), x -> x.hour(1), 4);
        refused("19: 4, 168 behind 9,999", lateBy(0), x -> x.hour(168), 4);
        refused("19: 4, one too many", lateBy(1), x -> x.hour(2), 4);
        refused("19: 4, one too many of 168", lateBy(82), x -> x.hour(83), 4);
        refused("19: 1 ahead of 4, 169", lateBy(1), x -> x.hour(169), 1);
        refused("19: 1 ahead of 4, as many as can be", lateBy(1), x -> x.hour(Integer.MAX_VALUE), 1);
        ForgetStream x = lateBy(82).get();
        Checks.ok(x, "19: to 9,999 alone", x.hour(82), 0);
        Checks.ok(x, "19: it is 9,999", x.told(5), 9999);
    }

    private static void full() {
        Consumer<ForgetStream> threeMore = x -> {
            x.make(1, 1, 1);
            x.make(2, 2, 2);
            x.make(3, 3, 3);
        };
        refused("24: 4, a ninth", house(threeMore), x -> x.make(0, 1, 1), 4);
        refused("24: 1 ahead of 4, weight 10", house(threeMore), x -> x.make(10, 1, 1), 1);
        refused("24: 1 ahead of 4, grip 0", house(threeMore), x -> x.make(0, 0, 1), 1);
        refused("24: 1 ahead of 4, mind 25", house(threeMore), x -> x.make(0, 1, 25), 1);
        ForgetStream x = House.full();
        Checks.ok(x, "24: the sixth is 5", x.make(1, 1, 1), 5);
        Checks.ok(x, "24: the seventh is 6", x.make(1, 1, 1), 6);
        Checks.ok(x, "24: the eighth is 7", x.make(1, 1, 1), 7);
        refused("25: 4, a fifth", y -> y.build(0, 0), 4);
        refused("25: 1 ahead of 4, cell 5", y -> y.build(5, 0), 1);
        refused("25: 1 ahead of 4, kind 3", y -> y.build(0, 3), 1);
        refused("25: 1 ahead of 4, kind -1", y -> y.build(0, -1), 1);
    }

    private static void ahead() {
        refused("29: 6, ashore", x -> x.homeIn(S), 6);
        refused("29: 6, it can't be taken up", glen("load 1;thing a weighs 2 grips 1 minds 1 lies 7;"), x -> x.homeIn(0), 6);
        refused("31: 6, no turn", glen("long 3;"), x -> x.turnIn(), 6);
        refused("33: 6, never quiet", glen("load 1;thing a weighs 2 grips 1 minds 1 lies 7;"), x -> x.quietIn(), 6);
        refused("34: 6, none in 200 hours", glen("long 14;load 1;thing a weighs 1 grips 3 minds 23 lies 0;"), x -> x.ring(), 6);
    }

    private static void thrown() {
        refused("35: 6, no cell for hour 0", x -> x.aim(S, 0), 6);
        refused("35: 7, it lies", x -> x.aim(L, 4), 7);
        refused("35: 7, it is carried", x -> x.aim(C, 4), 7);
        refused("35: 1 ahead of 7, hour 61", x -> x.aim(L, 61), 1);
        refused("35: 1 ahead of 7, hour -1", x -> x.aim(C, -1), 1);
        Supplier<ForgetStream> heavy = glen("load 1;thing a weighs 2 grips 1 minds 1;");
        refused("36: 6, too heavy", heavy, x -> x.soonest(0), 6);
        refused("37: 6, too heavy", heavy, x -> x.soonestIn(0), 6);
        refused("36: 7, it lies", x -> x.soonest(L), 7);
        refused("36: 7, it is carried", x -> x.soonest(C), 7);
        refused("37: 7, it lies", x -> x.soonestIn(L), 7);
        refused("37: 7, it is carried", x -> x.soonestIn(C), 7);
        refused("38: 1, one thing twice", x -> x.drive(0, S, S, 5), 1);
        refused("38: 1 ahead of 7, one thing twice", x -> x.drive(0, L, L, 5), 1);
        refused("38: 1 ahead of 7, hours 49", x -> x.drive(0, L, S, 49), 1);
        refused("38: 1 ahead of 7, mill 4", x -> x.drive(4, L, S, 5), 1);
        refused("38: 1 ahead of 7, no such other", x -> x.drive(0, L, 5, 5), 1);
        refused("38: 7, the first lies", x -> x.drive(0, L, S, 5), 7);
        refused("38: 7, the first is carried", x -> x.drive(0, C, S, 5), 7);
        refused("38: 7, the second lies", x -> x.drive(0, S, L, 5), 7);
        refused("38: 7, the second is carried", x -> x.drive(0, T, C, 0), 7);
        refused("39: 1, one thing twice", x -> x.driveCell(0, T, T, 5, 0), 1);
        refused("39: 1 ahead of 7, one thing twice", x -> x.driveCell(0, C, C, 5, 1), 1);
        refused("39: 1 ahead of 7, what 2", x -> x.driveCell(0, L, S, 5, 2), 1);
        refused("39: 1 ahead of 7, what -1", x -> x.driveCell(0, S, L, 5, -1), 1);
        refused("39: 7, the first lies", x -> x.driveCell(0, L, S, 5, 0), 7);
        refused("39: 7, the second is carried", x -> x.driveCell(0, S, C, 5, 1), 7);
    }

    /** Of a tray of so many numbers one is another. */
    private static Supplier<ForgetStream> tray(int many, int place, long v) {
        return house(x -> {
            x.tray(FEW, 3, many);
            x.write(FEW, place, v);
        });
    }

    private static void seen() {
        ToIntFunction<ForgetStream> minded = x -> x.minded(L, FEW, 2);
        ToIntFunction<ForgetStream> least = x -> x.mindedAt(L, FEW, 2, 0);
        ToIntFunction<ForgetStream> greatest = x -> x.mindedAt(L, FEW, 2, 1);
        ToIntFunction<ForgetStream> ask = x -> x.ask(L, FEW, 2);
        seenBy("40", minded);
        seenBy("41 (least)", least);
        seenBy("41 (greatest)", greatest);
        seenBy("42", ask);
        refused("40: 2 ahead of 3", x -> x.minded(L, NO_TRAY, 20), 2);
        refused("40: 2, not even none", x -> x.minded(L, NO_TRAY, 0), 2);
        refused("40: 1 ahead of 2, thing 5", x -> x.minded(5, NO_TRAY, 0), 1);
        refused("40: 1 ahead of 2, n 21", x -> x.minded(L, NO_TRAY, 21), 1);
        refused("40: 1 ahead of 3, n 21", x -> x.minded(L, FEW, 21), 1);
        refused("41: 2 ahead of 3", x -> x.mindedAt(L, NO_TRAY, 20, 0), 2);
        refused("41: 1 ahead of 2, what 2", x -> x.mindedAt(L, NO_TRAY, 20, 2), 1);
        refused("41: 1 ahead of 3, what -1", x -> x.mindedAt(L, FEW, 20, -1), 1);
        refused("41: 1 ahead of 5, what 2", tray(4, 0, 61), x -> x.mindedAt(L, FEW, 2, 2), 1);
        refused("42: 2 ahead of 3", x -> x.ask(L, NO_TRAY, 20), 2);
        refused("42: 1 ahead of 2, thing -1", x -> x.ask(-1, NO_TRAY, 0), 1);
        Supplier<ForgetStream> bothWays = house(x -> x.write(FEW, 2, 5));
        refused("41: 6, it can't turn and not turn", bothWays, least::applyAsInt, 6);
        refused("41: 6, none is the greatest", bothWays, greatest::applyAsInt, 6);
        refused("42: 6, none", bothWays, ask::applyAsInt, 6);
        refused("41: 1 ahead of 6, what 2", bothWays, x -> x.mindedAt(L, FEW, 2, 2), 1);
        // it turns behind one of 0 to 2 hours: a alone can make it do so, by mind 1
        Supplier<ForgetStream> one = () -> {
            ForgetStream x = Checks.with("long 4;stream 3;thing a weighs 1 grips 24 minds 2 lies 0;");
            x.tray(0, 0, 4);
            x.write(0, 0, 1);
            x.write(0, 1, 1);
            return x;
        };
        ForgetStream x = one.get();
        Checks.ok(x, "40: one mind", x.minded(0, 0, 1), 1);
        refused("42: 6, fewer than two", one, y -> y.ask(0, 0, 1), 6);
    }

    private static void seenBy(String promise, ToIntFunction<ForgetStream> call) {
        refused(promise + ": 3, none for two twos", house(x -> x.tray(FEW, 0, 0)), call::applyAsInt, 3);
        refused(promise + ": 3, three numbers for two twos", tray(3, 0, 0), call::applyAsInt, 3);
        refused(promise + ": 3 ahead of 5", tray(3, 0, 61), call::applyAsInt, 3);
        refused(promise + ": 5, 61 hours", tray(4, 2, 61), call::applyAsInt, 5);
        refused(promise + ": 5, -1 hours", tray(4, 0, -1), call::applyAsInt, 5);
        refused(promise + ": 5, 2 in place of 1", tray(4, 3, 2), call::applyAsInt, 5);
        refused(promise + ": 5, -1 in place of 0", tray(4, 1, -1), call::applyAsInt, 5);
        refused(promise + ": 5, far above", tray(4, 0, 1L << 32), call::applyAsInt, 5);
        refused(promise + ": 5, far below", tray(4, 3, Long.MIN_VALUE), call::applyAsInt, 5);
        Supplier<ForgetStream> never = house(x -> {
            x.tray(FEW, 0, 4);
            x.write(FEW, 1, 1);
            x.write(FEW, 2, 61);
        });
        refused(promise + ": 5 ahead of 6", never, call::applyAsInt, 5);
        ForgetStream x = tray(6, 4, 61).get();
        int answer = call.applyAsInt(x);
        Checks.due(promise + ": what is behind the first n is not asked for", x.status() == 5 || answer < 0, false);
    }

    private static void boats() {
        refused("45: 6, the stream is never in 0 again", glen("long 3;stream 1;"), x -> x.ride(0, 2), 6);
        refused("46: 6, the stream is never in 0 again", glen("long 3;stream 1;"), x -> x.waits(0, 2), 6);
        refused("45: 6, it is in the first, but never in the other", glen("long 3;stream 1;"), x -> x.ride(1, 0), 6);
        refused("46: 6, it is in the first, but never in the other", glen("long 3;stream 1;"), x -> x.waits(1, 0), 6);
    }

    private static void games() {
        Supplier<ForgetStream> nothing = glen("long 3;mill m at 1 both;mill n at 2 both;");
        refused("48: 6, there is nothing to throw", nothing, x -> x.moveOf(0, 1, 2, 0), 6);
        refused("48: 6, nowhere", nothing, x -> x.moveOf(0, 1, 1, 1), 6);
        refused("48: 1 ahead of 6, what 2", nothing, x -> x.moveOf(0, 1, 1, 2), 1);
        refused("48: 1 ahead of 6, turns 0", nothing, x -> x.moveOf(0, 1, 0, 0), 1);
        refused("48: 1, one mill twice", x -> x.moveOf(1, 1, 1, 0), 1);
        refused("47: 1, one mill twice", x -> x.game(1, 1, 1), 1);
        refused("47: 1, one mill twice for no turns", x -> x.game(3, 3, 0), 1);
    }

    private static void shares() {
        Supplier<ForgetStream> nothing = glen("long 3;mill m at 1 both;mill n at 2 both;");
        refused("49: 6, nothing was ground", nothing, x -> bool(x.share(0)), 6);
        refused("49: 1 ahead of 6", nothing, x -> bool(x.share(2)), 1);
        refused("49: 1 ahead of 6, without mills", ForgetStream::new, x -> bool(x.share(0)), 1);
    }

    private static void lives() {
        Supplier<ForgetStream> without = glen("long 3;thing a weighs 1 grips 1 minds 1;");
        refused("52: 6, no days", without, x -> x.live(0), 6);
        refused("52: 1 ahead of 6", without, x -> x.live(10000), 1);
        refused("53: 6, none was lived", without, x -> x.lived(0), 6);
        refused("53: 1 ahead of 6, what 5", without, x -> x.lived(5), 1);
        refused("53: 1 ahead of 6, what -1", without, x -> x.lived(-1), 1);
        refused("54: 6, no days", without, x -> bool(x.mean(0, 1)), 6);
        refused("54: 1 ahead of 6, many 0", without, x -> bool(x.mean(0, 0)), 1);
        refused("54: 1 ahead of 6, many 21", without, x -> bool(x.mean(0, 21)), 1);
        refused("54: 1 ahead of 6, the last above 9,999", without, x -> bool(x.mean(9999, 2)), 1);
        refused("54: 1, the last above 9,999", x -> bool(x.mean(9980, 21)), 1);
        refused("54: 1, the last is 10,000", x -> bool(x.mean(9981, 20)), 1);
        refused("54: 1, the last of two is 10,000", x -> bool(x.mean(9999, 2)), 1);
        refused("54: 1, far above", x -> bool(x.mean(Integer.MAX_VALUE, 20)), 1);
        ForgetStream x = House.full();
        Checks.ok(x, "54: the last is 9,999", x.mean(9980, 20));
        Checks.ok(x, "54: the last alone", x.mean(9999, 1));
    }

    private static void marks() {
        refused("55: 4, a fourth", house(x -> x.mark()), x -> x.mark(), 4);
        refused("56: 6, none at first", ForgetStream::new, x -> x.undo(), 6);
        refused("56: 6, none left", house(x -> {
            x.undo();
            x.undo();
        }), x -> x.undo(), 6);
    }

    /** "but glen(), days() with 9 the tape, and what fault() tells" */
    private static void faults() {
        faulty("long 5;load 9;up", true, 14);
        faulty("hour 3;throw", false, 12);
    }

    private static void faulty(String text, boolean ofGlen, int place) {
        ForgetStream x = House.full();
        // what lies on the tape goes first: it is no days
        Checks.no(x, "11: a word that is no step", x.days(7), 9);
        int n = ofGlen ? Checks.glen(x, text) : Checks.days(x, text);
        Checks.no(x, "10, 11: " + text, n, 9);
        Checks.due("12: the fault of " + text, x.fault(0), 2);
        Checks.due("12: the place in " + text, x.fault(1), place);
        Checks.same("10, 11: 9 changes nothing else", House.lookWithoutTexts(x), House.lookWithoutTexts(House.full()));
        Checks.due("10, 11: the tape is empty", x.feed(0, 0, 0, 0, 0), 20);
    }

    /** What is only asked changes nothing but the fraction where the document says so. */
    private static void questionsChangeNothing() {
        unchanged("13: told", x -> x.told(13));
        unchanged("14: thing", x -> x.thing(2, 5));
        unchanged("15: cellOf", x -> x.cellOf(C));
        unchanged("16: mill", x -> x.mill(0, 2));
        unchanged("17: goal", x -> x.goal());
        unchanged("27: atIn", x -> x.atIn(400));
        unchanged("28: carriedIn", x -> x.carriedIn(400));
        unchanged("29: homeIn", x -> x.homeIn(L));
        unchanged("30: turnsIn", x -> x.turnsIn(400));
        unchanged("31: turnIn", x -> x.turnIn());
        unchanged("32: groundIn", x -> x.groundIn(2, 400));
        unchanged("33: quietIn", x -> x.quietIn());
        unchanged("34: ring", x -> x.ring());
        unchanged("35: aim", x -> x.aim(T, 17));
        unchanged("36: soonest", x -> x.soonest(S));
        unchanged("37: soonestIn", x -> x.soonestIn(H));
        unchanged("38: drive", x -> x.drive(0, H, S, 48));
        unchanged("39: driveCell", x -> x.driveCell(2, T, S, 48, 1));
        unchanged("40: minded", x -> x.minded(S, SIXTY, 20));
        unchanged("41: mindedAt", x -> x.mindedAt(L, SIXTY, 20, 1));
        unchanged("42: ask", x -> x.ask(L, SIXTY, 0));
        unchanged("43: heaviest", x -> x.heaviest());
        unchanged("44: heaviestWeight", x -> x.heaviestWeight());
        unchanged("45: ride", x -> x.ride(1, 4));
        unchanged("46: waits", x -> x.waits(2, 4));
        unchanged("47: game", x -> x.game(0, 2, 2));
        unchanged("48: moveOf", x -> x.moveOf(0, 2, 2, 0));
        unchanged("49: share", x -> bool(x.share(0)));
        unchanged("50: rain", x -> bool(x.rain(12, 6)));
        unchanged("53: lived", x -> x.lived(0));
        unchanged("54: mean", x -> bool(x.mean(5, 20)));
    }

    private static void unchanged(String what, ToLongFunction<ForgetStream> call) {
        ForgetStream x = House.full();
        call.applyAsLong(x);
        Checks.due(what + ": status", x.status(), 0);
        // only the fraction may be another: it is made the same again
        x.rain(2, 1);
        Checks.same(what + " changes nothing", House.look(x), House.look(House.full()));
    }

    /** "status(), top(), bottom(), feed(), fault() have none." */
    private static void callsWithoutStatus() {
        ForgetStream x = House.full();
        x.undo();
        x.undo();
        Checks.no(x, "56: none left", x.undo(), 6);
        Checks.due("2: of the latest that has one", x.status(), 6);
        x.top();
        Checks.due("3: top has none", x.status(), 6);
        x.bottom();
        Checks.due("4: bottom has none", x.status(), 6);
        Checks.due("9: fed", x.feed(0, 0, 0, 0, 0), 40);
        Checks.due("9: feed has none", x.status(), 6);
        for (int i = 0; i < 50; i++) {
            x.feed(0, 0, 0, 0, 0);
        }
        Checks.due("9: nor with NONE", x.feed(0, 0, 0, 0, 0), -1);
        Checks.due("9: nor with NONE", x.status(), 6);
        x.fault(0);
        Checks.due("12: fault has none", x.status(), 6);
        Checks.due("12: others are none", x.fault(2), -1);
        Checks.due("12: fault has none for others", x.status(), 6);
        Checks.ok(x, "2: 0 again", x.goal(), 4);
        ForgetStream y = new ForgetStream();
        y.feed(0, 0, 0, 0, 0);
        y.fault(-1);
        Checks.due("2: 0 at first", y.status(), 0);
    }
}
