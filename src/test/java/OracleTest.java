import java.lang.reflect.InvocationTargetException;
import java.lang.reflect.Method;
import java.util.ArrayList;
import java.util.Arrays;
import java.util.List;
import java.util.Map;
import java.util.Random;
import java.util.TreeMap;

/**
 * Long runs of calls by lot on the class and on the oracle: each answer, status, fraction and fault
 * must be the same. Arguments: how many runs, and the first seed; more of them can be asked for by hand.
 */
public final class OracleTest {
    private static final int CALLS = 400;
    private static final int[] EDGES = {Integer.MIN_VALUE, -2, -1, 0, 1, 2, 3, 4, 8, 9, 15, 16, 17, 24, 25, 48, 49,
        60, 61, 99, 168, 169, 300, 301, 399, 400, 401, 900, 901, 9999, 10000, Integer.MAX_VALUE};
    private static final String[] NAMES = {"a", "b", "cup", "oarblade", "shoe", "hat", "rope", "bell", "w", "zz"};
    private static final String[] BITS = {";", "<", ">", "=", " ", "\n", "\t", "A", "\u00e9", "0", "1", "7", "16", "99",
        "9999", "12345", "long", "load", "odds", "stream", "up", "down", "both", "thing", "weighs", "grips", "minds",
        "lies", "mill", "at", "hour", "throw", "fetch", "any", "when", "runs", "ground", "loop", "end", "stop", "a",
        "abcdefgh", "abcdefghi", "zz", ""};

    private final Random lot;
    private final ForgetStream it = new ForgetStream();
    private final Oracle oracle = new Oracle();
    private final List<String> calls = new ArrayList<>();
    private final Map<String, Integer> reached;
    private int taped = 0;

    private OracleTest(long seed, Map<String, Integer> reached) {
        lot = new Random(seed);
        this.reached = reached;
    }

    public static void main(String[] args) throws ReflectiveOperationException {
        int runs = args.length > 0 ? Integer.parseInt(args[0]) : 150;
        long first = args.length > 1 ? Long.parseLong(args[1]) : 1;
        Map<String, Integer> reached = new TreeMap<>();
        for (long seed = first; seed < first + runs; seed++) {
            OracleTest test = new OracleTest(seed, reached);
            if (!test.run()) {
                System.out.println("by seed " + seed + ":");
                test.calls.forEach(System.out::println);
                System.exit(1);
            }
        }
        List<String> missing = new ArrayList<>(Arrays.asList(DUE.strip().split("\\s+")));
        missing.removeAll(reached.keySet());
        if (args.length > 2) {
            System.out.println(reached);
        }
        if (!missing.isEmpty() && args.length == 0) {
            System.out.println("the runs never came to " + missing);
            System.exit(1);
        }
    }

    /** Each call with each status that the document tells for it. */
    private static final String DUE = """
            tray:0 tray:1 write:0 write:1 write:2 write:3 read:0 read:1 read:2 read:3
            pour:0 pour:1 pour:2 pour:3 pour:8 glen:0 glen:1 glen:9 days:0 days:1 days:9
            told:0 told:1 thing:0 thing:1 cellOf:0 cellOf:1 cellOf:6 mill:0 mill:1 goal:0 goalThing:0 goalThing:6
            hour:0 hour:1 hour:4 toss:0 toss:1 toss:7 fetch:0 fetch:1 fetch:7 grip:0 grip:1 mind:0 mind:1
            make:0 make:1 make:4 build:0 build:1 build:4 rule:0 rule:1 atIn:0 atIn:1 carriedIn:0 carriedIn:1
            homeIn:0 homeIn:1 homeIn:6 turnsIn:0 turnsIn:1 turnIn:0 turnIn:6 groundIn:0 groundIn:1
            quietIn:0 quietIn:6 ring:0 ring:6 aim:0 aim:1 aim:6 aim:7 soonest:0 soonest:1 soonest:6 soonest:7
            soonestIn:0 soonestIn:1 soonestIn:6 soonestIn:7 drive:0 drive:1 drive:7
            driveCell:0 driveCell:1 driveCell:7 minded:0 minded:1 minded:2 minded:3 minded:5
            mindedAt:0 mindedAt:1 mindedAt:2 mindedAt:3 mindedAt:5 mindedAt:6 ask:0 ask:1 ask:2 ask:3 ask:5 ask:6
            heaviest:0 heaviestWeight:0 ride:0 ride:1 ride:6 waits:0 waits:1 waits:6 game:0 game:1
            moveOf:0 moveOf:1 moveOf:6 share:0 share:1 share:6 rain:0 rain:1
            copyHours:0 copyHours:1 copyHours:2 copyHours:3 live:0 live:1 live:6 lived:0 lived:1 lived:6
            mean:0 mean:1 mean:6 mark:0 mark:4 undo:0 undo:6
            fault1 fault2 fault3 fault4 fault5 fault6 fault7
            """;

    private boolean run() throws ReflectiveOperationException {
        if (lot.nextInt(8) > 0 && !text("glen", glenText())) {
            return false;
        }
        while (calls.size() < CALLS) {
            if (!step()) {
                return false;
            }
        }
        return true;
    }

    private boolean step() throws ReflectiveOperationException {
        switch (lot.nextInt(60)) {
            case 0:
                return text("glen", glenText());
            case 1:
                return text("glen", shortened(mutated(glenText()), 900));
            case 2:
            case 3:
                return text("days", daysText());
            case 4:
                return text("days", shortened(mutated(daysText()), 300));
            case 5:
            case 6:
            case 7:
            case 8:
                return both("live", seed());
            case 9:
                return seen();
            case 10:
                return lot.nextInt(40) > 0 || nearTheEnd();
            default:
                return anyCall();
        }
    }

    private int seed() {
        return lot.nextInt(10) == 0 ? edge() : lot.nextInt(10000);
    }

    private int edge() {
        return EDGES[lot.nextInt(EDGES.length)];
    }

    private int thing() {
        return lot.nextInt(25) == 0 ? edge() : lot.nextInt(Math.max(1, oracleTold(0)));
    }

    private int mill() {
        return lot.nextInt(25) == 0 ? edge() : lot.nextInt(Math.max(1, oracleTold(1)));
    }

    private int cell() {
        return lot.nextInt(25) == 0 ? edge() : lot.nextInt(oracleTold(2));
    }

    /** Asked of the oracle alone would change its status alone: so of both. */
    private int oracleTold(int what) {
        it.told(what);
        return oracle.told(what);
    }

    private int upTo(int least, int most) {
        return lot.nextInt(12) == 0 ? edge() : least + lot.nextInt(most - least + 1);
    }

    private int tray() {
        return lot.nextInt(25) == 0 ? edge() : lot.nextInt(4);
    }

    private boolean anyCall() throws ReflectiveOperationException {
        switch (lot.nextInt(58)) {
            case 0: return both("tray", tray(), upTo(0, 3), upTo(0, 60));
            case 1: return both("write", tray(), upTo(0, 20), lot.nextLong() >> lot.nextInt(64));
            case 2: return both("read", tray(), upTo(0, 20));
            case 3: return both("pour", tray(), upTo(0, 20), tray(), upTo(0, 20), upTo(0, 20));
            case 4: return both("feed", lot.nextInt(), lot.nextInt(), lot.nextInt(), lot.nextInt(), lot.nextInt());
            case 5: return both("glen", lot.nextBoolean() ? -1 : edge());
            case 6: return both("days", lot.nextBoolean() ? -1 : edge());
            case 7: return both("fault", upTo(0, 1));
            case 8: return both("told", upTo(0, 14));
            case 9: return both("thing", thing(), upTo(0, 5));
            case 10: return both("cellOf", thing());
            case 11: return both("mill", mill(), upTo(0, 2));
            case 12: return both("goal");
            case 13: return both("goalThing");
            case 14:
            case 15: return both("hour", lot.nextInt(4) == 0 ? upTo(1, 168) : upTo(1, 6));
            case 16:
            case 17:
            case 18: return both("toss", thing(), cell());
            case 19: return both("fetch", thing());
            case 20: return both("grip", thing(), upTo(1, 24));
            case 21: return both("mind", thing(), upTo(1, 24));
            case 22: return both("make", upTo(0, 9), upTo(1, 24), upTo(1, 24));
            case 23: return both("build", cell(), upTo(0, 2));
            case 24: return both("rule", upTo(3, 4), upTo(0, 16));
            case 25: return both("atIn", upTo(0, 60));
            case 26: return both("carriedIn", upTo(0, 60));
            case 27: return both("homeIn", thing());
            case 28: return both("turnsIn", upTo(0, 60));
            case 29: return both("turnIn");
            case 30: return both("groundIn", mill(), upTo(0, 60));
            case 31: return both("quietIn");
            case 32: return both("ring");
            case 33: return both("aim", thing(), upTo(0, 20));
            case 34: return both("soonest", thing());
            case 35: return both("soonestIn", thing());
            case 36: return both("drive", mill(), thing(), thing(), upTo(0, 48));
            case 37: return both("driveCell", mill(), thing(), thing(), upTo(0, 48), upTo(0, 1));
            case 38: return both("minded", thing(), tray(), upTo(0, 5));
            case 39: return both("mindedAt", thing(), tray(), upTo(0, 5), upTo(0, 1));
            case 40: return both("ask", thing(), tray(), upTo(0, 2));
            case 41: return both("heaviest");
            case 42: return both("heaviestWeight");
            case 43: return both("ride", cell(), cell());
            case 44: return both("waits", cell(), cell());
            case 45: return both("game", mill(), mill(), lot.nextInt(4) == 0 ? upTo(0, 2) : upTo(0, 1));
            case 46: return both("moveOf", mill(), mill(), lot.nextInt(4) == 0 ? upTo(1, 2) : 1, upTo(0, 1));
            case 47: return both("share", mill());
            case 48: return both("rain", upTo(0, 12), upTo(0, 12));
            case 49: return both("copyHours", tray());
            case 50: return both("lived", upTo(0, 4));
            case 51: return both("mean", seed(), lot.nextInt(8) == 0 ? upTo(1, 20) : upTo(1, 4));
            case 52: return both("mark");
            case 53: return both("undo");
            default: return snapshot();
        }
    }

    private boolean snapshot() throws ReflectiveOperationException {
        boolean same = true;
        for (int what = 0; same && what <= 14; what++) {
            same = both("told", what);
        }
        for (int thing = 0; same && thing < oracleTold(0); thing++) {
            for (int what = 0; same && what <= 5; what++) {
                same = both("thing", thing, what);
            }
        }
        for (int mill = 0; same && mill < oracleTold(1); mill++) {
            same = both("mill", mill, 2);
        }
        return same;
    }

    /** A tray of what was seen, now and then as it will be, and what is asked by it. */
    private boolean seen() throws ReflectiveOperationException {
        int n = lot.nextInt(5);
        boolean same = both("tray", 0, lot.nextInt(4), 2 * n + lot.nextInt(3));
        int turn = oracle.turnIn();
        it.turnIn();
        for (int i = 0; same && i < n; i++) {
            int hours = lot.nextInt(12) == 0 ? edge() : lot.nextInt(3) == 0 && turn >= 0 && turn <= 60 ? turn : lot.nextInt(61);
            int turned = hours < 0 || hours > 60 ? 0 : oracle.turnsIn(hours + 1) - oracle.turnsIn(hours);
            it.turnsIn(0);
            oracle.turnsIn(0);
            same = both("write", 0, 2 * i, (long) hours)
                    && both("write", 0, 2 * i + 1, (long) (lot.nextInt(12) == 0 ? 1 - turned : turned));
        }
        int thing = thing();
        return same && both("minded", thing, 0, n) && both("mindedAt", thing, 0, n, lot.nextInt(2))
                && both("ask", thing, 0, n);
    }

    /** Hours till the last ones, where calls and days can't let them go by. */
    private boolean nearTheEnd() throws ReflectiveOperationException {
        boolean same = true;
        for (int i = 0; same && i < 60; i++) {
            same = both("hour", 168);
        }
        return same;
    }

    private boolean text(String call, String text) throws ReflectiveOperationException {
        byte[] bytes = text.getBytes(java.nio.charset.StandardCharsets.ISO_8859_1);
        // What lies on the tape would come ahead of the text: most likely a fault, which empties it.
        boolean same = taped == 0 || both("days", 20);
        for (int i = 0; same && i < bytes.length; i += 20) {
            int[] ints = new int[5];
            for (int j = 0; j < 20; j++) {
                int b = i + j < bytes.length ? bytes[i + j] & 255 : lot.nextInt(256);
                ints[j / 4] |= b << 24 - j % 4 * 8;
            }
            same = both("feed", ints[0], ints[1], ints[2], ints[3], ints[4]);
        }
        same = same && both(call, bytes.length);
        if (oracle.fault(0) > 0) {
            reached.merge("fault" + oracle.fault(0), 1, Integer::sum);
        }
        return same;
    }

    private String glenText() {
        StringBuilder s = new StringBuilder();
        int cells = 8;
        if (lot.nextInt(4) > 0) {
            cells = 2 + lot.nextInt(15);
            s.append("long ").append(cells).append(";");
        }
        if (lot.nextBoolean()) {
            s.append("load ").append(1 + lot.nextInt(lot.nextBoolean() ? 40 : 12)).append(" ; ");
        }
        if (lot.nextBoolean()) {
            s.append("odds ").append(lot.nextInt(17)).append(";\n");
        }
        if (lot.nextBoolean()) {
            s.append("stream ").append(lot.nextInt(cells)).append(lot.nextBoolean() ? " up;" : ";");
        }
        int things = lot.nextInt(9);
        for (int i = 0; i < things; i++) {
            int most = lot.nextInt(3) == 0 ? 24 : 6;
            s.append("thing ").append(NAMES[i]).append(" weighs ").append(lot.nextInt(10)).append(" grips ")
                    .append(1 + lot.nextInt(24)).append(" minds ").append(1 + lot.nextInt(most));
            s.append(lot.nextBoolean() ? " lies " + lot.nextInt(cells) + ";" : ";");
        }
        int mills = lot.nextInt(5);
        for (int i = 0; i < mills; i++) {
            s.append("mill m").append((char) ('a' + i)).append(" at ").append(lot.nextInt(cells)).append(' ')
                    .append(new String[] {"up", "down", "both"}[lot.nextInt(3)]).append(";");
        }
        return s.toString();
    }

    private String daysText() {
        StringBuilder s = new StringBuilder();
        steps(s, 0, lot.nextInt(4) == 0 ? 12 : 5);
        return shortened(s.toString(), 300);
    }

    private void steps(StringBuilder s, int depth, int most) {
        int many = lot.nextInt(most + 1);
        for (int i = 0; i < many; i++) {
            switch (lot.nextInt(depth < (lot.nextInt(10) == 0 ? 4 : 3) ? 11 : 8)) {
                case 0:
                case 1:
                case 2: s.append("hour ").append(1 + lot.nextInt(24)).append(";"); break;
                case 3: s.append("throw ").append(name()).append(' ').append(lot.nextInt(8)).append(";"); break;
                case 4: s.append("fetch ").append(name()).append(";"); break;
                case 5:
                case 6: s.append("any;"); break;
                case 7: s.append(lot.nextInt(4) == 0 ? "stop;" : "any;"); break;
                case 8:
                    s.append("loop ").append(1 + lot.nextInt(lot.nextInt(3) == 0 ? 99 : 5)).append(";");
                    steps(s, depth + 1, 4);
                    s.append("end;");
                    break;
                default:
                    s.append("when ").append(test()).append(";");
                    steps(s, depth + 1, 4);
                    s.append("end;");
            }
        }
    }

    private String name() {
        return NAMES[lot.nextInt(lot.nextInt(8) == 0 ? NAMES.length : Math.max(1, oracleTold(0)))];
    }

    private String test() {
        String sign = new String[] {"<", ">", "="}[lot.nextInt(3)];
        switch (lot.nextInt(4)) {
            case 0: return "lies " + name();
            case 1: return lot.nextBoolean() ? "runs down" : "runs up";
            case 2: return "at" + sign + lot.nextInt(16);
            default: return "ground m" + (char) ('a' + lot.nextInt(Math.max(1, oracleTold(1)))) + sign + lot.nextInt(20);
        }
    }

    /** A text with one or two slips in it. */
    private String mutated(String text) {
        List<String> parts = new ArrayList<>(Arrays.asList(text.split(";")));
        if (lot.nextInt(3) == 0) {
            // one part once more, elsewhere
            parts.add(lot.nextInt(parts.size() + 1), parts.get(lot.nextInt(parts.size())));
            return String.join(";", parts) + ";";
        }
        StringBuilder s = new StringBuilder(text);
        for (int i = 0; i <= lot.nextInt(2); i++) {
            int at = lot.nextInt(s.length() + 1);
            int to = Math.min(s.length(), at + lot.nextInt(4));
            String bit = BITS[lot.nextInt(BITS.length)];
            int space = s.indexOf(" ", at);
            if (space >= 0 && lot.nextBoolean()) {
                int end = space + 1;
                while (end < s.length() && Character.isLetterOrDigit(s.charAt(end))) {
                    end++;
                }
                s.replace(space + 1, end, bit);
            } else {
                s.replace(at, to, bit);
            }
        }
        return s.toString();
    }

    private static String shortened(String text, int most) {
        return text.substring(0, Math.min(most, text.length()));
    }

    private boolean both(String name, Object... args) throws ReflectiveOperationException {
        Class<?>[] types = new Class<?>[args.length];
        for (int i = 0; i < args.length; i++) {
            types[i] = args[i] instanceof Long ? long.class : int.class;
        }
        Object due = invoke(Oracle.class.getMethod(name, types), oracle, args);
        Object got = invoke(ForgetStream.class.getMethod(name, types), it, args);
        String state = oracle.status() + " " + oracle.top() + "/" + oracle.bottom() + " " + oracle.fault(0) + "@" + oracle.fault(1);
        String state2 = it.status() + " " + it.top() + "/" + it.bottom() + " " + it.fault(0) + "@" + it.fault(1);
        calls.add(name + Arrays.toString(args) + " = " + got + " (" + state2 + ")");
        reached.merge(name + ":" + oracle.status(), 1, Integer::sum);
        if (name.equals("feed") && !due.equals(-1)) {
            taped = (Integer) due;
        } else if ((name.equals("glen") || name.equals("days")) && oracle.status() != 1) {
            taped = 0;
        }
        if (!due.equals(got) || !state.equals(state2)) {
            calls.add("    due is " + due + " (" + state + ")");
            return false;
        }
        return true;
    }

    private static Object invoke(Method m, Object on, Object[] args) throws ReflectiveOperationException {
        try {
            return m.invoke(on, args);
        } catch (InvocationTargetException e) {
            e.getCause().printStackTrace(System.out);
            return "threw " + e.getCause();
        }
    }
}
