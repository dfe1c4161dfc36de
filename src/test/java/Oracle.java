import java.math.BigInteger;
import java.util.ArrayList;
import java.util.Arrays;
import java.util.HashMap;
import java.util.List;
import java.util.Map;
import java.util.Set;
import java.util.function.BiPredicate;

/**
 * The document once more, slow and plain and in another shape than the class (lists, maps, copies,
 * recursion), so that a slip in the one is not a slip in the other. Its public methods bear the
 * names of the class's, so that a test can call both alike.
 */
public final class Oracle {
    static final Set<String> RESERVED = Set.of("long", "load", "odds", "stream", "up", "down", "both", "thing",
            "weighs", "grips", "minds", "lies", "mill", "at", "hour", "throw", "fetch", "any", "when", "runs",
            "ground", "loop", "end", "stop");

    static final class Thing {
        String name;
        int weight;
        int grip;
        int mind;
        char where = 'a';
        int cell;
        int hours;
        int homes;

        Thing copy() {
            Thing t = new Thing();
            t.name = name;
            t.weight = weight;
            t.grip = grip;
            t.mind = mind;
            t.where = where;
            t.cell = cell;
            t.hours = hours;
            t.homes = homes;
            return t;
        }

        boolean out() {
            return where == 'a' || where == 'h';
        }

        boolean remembered() {
            return where == 'l' && hours >= mind;
        }
    }

    static final class Mill {
        String name;
        int cell;
        int kind;
        int ground;

        Mill copy() {
            Mill m = new Mill();
            m.name = name;
            m.cell = cell;
            m.kind = kind;
            m.ground = ground;
            return m;
        }
    }

    static final class World {
        int cells = 8;
        int load = 10;
        int odds = 4;
        int stream = 0;
        boolean down = true;
        int hour = 0;
        int turns = 0;
        List<Thing> things = new ArrayList<>();
        List<Mill> mills = new ArrayList<>();
        List<Step> days = null;

        World copy() {
            World w = new World();
            w.cells = cells;
            w.load = load;
            w.odds = odds;
            w.stream = stream;
            w.down = down;
            w.hour = hour;
            w.turns = turns;
            things.forEach(t -> w.things.add(t.copy()));
            mills.forEach(m -> w.mills.add(m.copy()));
            w.days = days;
            return w;
        }

        Thing goal() {
            return things.stream().filter(Thing::remembered).reduce((a, b) -> b.hours > a.hours ? b : a).orElse(null);
        }

        int carriedWeight() {
            return things.stream().filter(t -> t.where == 'c').mapToInt(t -> t.weight).sum();
        }

        World after(int hours) {
            World w = copy();
            for (int i = 0; i < hours; i++) {
                w.hourGoesBy();
            }
            return w;
        }

        World with(int thing, int cell) {
            World w = copy();
            Thing t = w.things.get(thing);
            t.where = 'l';
            t.cell = cell;
            t.hours = 0;
            return w;
        }

        void hourGoesBy() {
            Thing g = goal();
            int to = g == null ? cells - 1 : g.cell;
            if (to != stream) {
                boolean wantDown = to > stream;
                if (wantDown != down) {
                    turns++;
                    down = wantDown;
                } else {
                    stream = stream + Integer.signum(to - stream);
                    for (Mill m : mills) {
                        if (m.cell == stream && (m.kind == 2 || m.kind == 1 && down || m.kind == 0 && !down)) {
                            m.ground++;
                        }
                    }
                }
            }
            for (Thing t : things) {
                if (t.remembered() && t.cell == stream && carriedWeight() + t.weight <= load) {
                    t.where = 'c';
                    t.hours = 0;
                }
            }
            if (stream == cells - 1) {
                for (Thing t : things) {
                    if (t.where == 'c') {
                        t.where = 'h';
                        t.hours = 0;
                        t.homes++;
                    }
                }
            }
            List<Thing> slipped = new ArrayList<>();
            for (Thing t : things) {
                if (t.where == 'c' && ++t.hours >= t.grip) {
                    t.where = 'l';
                    t.cell = stream;
                    t.hours = 0;
                    slipped.add(t);
                }
            }
            for (Thing t : things) {
                if (t.where == 'l' && !slipped.contains(t)) {
                    t.hours = Math.min(99, t.hours + 1);
                }
            }
            hour++;
        }

        int set(String wheres) {
            int s = 0;
            for (int i = 0; i < things.size(); i++) {
                s += wheres.indexOf(things.get(i).where) >= 0 ? 1 << i : 0;
            }
            return s;
        }

        int homes() {
            return things.stream().mapToInt(t -> t.homes).sum();
        }

        String picture() {
            StringBuilder s = new StringBuilder();
            s.append(stream).append(down);
            for (Thing t : things) {
                s.append(' ').append(t.where).append(t.where == 'l' ? t.cell : -1).append(':').append(t.hours);
            }
            return s.toString();
        }
    }

    record Step(String word, int thing, int number, String test, String compares, List<Step> body) {
    }

    static final class Fault extends RuntimeException {
        private static final long serialVersionUID = 1L;
        final int kind;
        final int place;

        Fault(int kind, int place) {
            this.kind = kind;
            this.place = place;
        }
    }

    record Token(String s, int place) {
        boolean word() {
            return !s.isEmpty() && Character.isLowerCase(s.charAt(0));
        }

        boolean number() {
            return !s.isEmpty() && Character.isDigit(s.charAt(0));
        }
    }

    /** All tokens up to the first that is none (it is null then), and the end, an empty one. */
    static final class Tokens {
        final List<Token> list = new ArrayList<>();
        int i = 0;

        Tokens(byte[] text) {
            String s = new String(text, java.nio.charset.StandardCharsets.ISO_8859_1);
            java.util.regex.Matcher m = java.util.regex.Pattern.compile("[\\n ]+|([a-z]+|[0-9]+|[;<>=])|(.)",
                    java.util.regex.Pattern.DOTALL).matcher(s);
            while (m.find()) {
                if (m.group(2) != null || m.group(1) != null && m.group(1).matches("[0-9]{5,}")) {
                    list.add(new Token(null, m.start()));
                } else if (m.group(1) != null) {
                    list.add(new Token(m.group(1), m.start()));
                }
            }
            list.add(new Token("", s.length()));
        }

        Token peek() {
            Token t = list.get(i);
            if (t.s == null) {
                throw new Fault(1, t.place);
            }
            return t;
        }

        boolean sees(String s) {
            return peek().s.equals(s);
        }

        Token next() {
            Token t = peek();
            i++;
            return t;
        }

        Token need(String... any) {
            Token t = peek();
            if (!Arrays.asList(any).contains(t.s)) {
                throw new Fault(2, t.place);
            }
            return next();
        }

        int number(int least, int most) {
            Token t = peek();
            if (!t.number()) {
                throw new Fault(2, t.place);
            }
            int n = Integer.parseInt(t.s);
            if (n < least || n > most) {
                throw new Fault(4, t.place);
            }
            i++;
            return n;
        }

        Token name() {
            Token t = peek();
            if (!t.word() || t.s.length() > 8 || RESERVED.contains(t.s)) {
                throw new Fault(2, t.place);
            }
            return next();
        }
    }

    private int status = 0;
    private BigInteger top = BigInteger.ZERO;
    private BigInteger bottom = BigInteger.ONE;
    private final Map<Integer, long[]> rows = new HashMap<>();
    private final Map<Integer, Integer> sorts = new HashMap<>();
    private byte[] tape = {};
    private int fault = -1;
    private int place = -1;
    private World now = new World();
    private final List<World> marks = new ArrayList<>();
    private int[] lived = null;

    // a status other than 0, by which a call ends
    static final class No extends RuntimeException {
        private static final long serialVersionUID = 1L;
        final int why;

        No(int why) {
            this.why = why;
        }
    }

    interface Answer {
        long get();
    }

    private long call(Answer a, long none) {
        try {
            long r = a.get();
            status = 0;
            return r;
        } catch (No no) {
            status = no.why;
            return none;
        }
    }

    private int num(Answer a) {
        return (int) call(a, -1);
    }

    private boolean yes(Runnable r) {
        return call(() -> {
            r.run();
            return 1;
        }, 0) == 1;
    }

    private static void no(boolean bad, int why) {
        if (bad) {
            throw new No(why);
        }
    }

    private static void in(int x, int least, int most) {
        no(x < least || x > most, 1);
    }

    private Thing t(int thing) {
        in(thing, 0, now.things.size() - 1);
        return now.things.get(thing);
    }

    private Mill m(int mill) {
        in(mill, 0, now.mills.size() - 1);
        return now.mills.get(mill);
    }

    private void cell(int cell) {
        in(cell, 0, now.cells - 1);
    }

    private long[] row(int tray) {
        in(tray, 0, 3);
        no(!rows.containsKey(tray), 2);
        return rows.get(tray);
    }

    public int status() {
        return status;
    }

    public long top() {
        return top.longValueExact();
    }

    public long bottom() {
        return bottom.longValueExact();
    }

    private void fraction(BigInteger a, BigInteger b) {
        BigInteger g = a.gcd(b);
        top = a.divide(g);
        bottom = b.divide(g);
    }

    public boolean tray(int tray, int sort, int many) {
        return yes(() -> {
            in(tray, 0, 3);
            in(sort, 0, 3);
            in(many, 0, 60);
            rows.put(tray, new long[many]);
            sorts.put(tray, sort);
        });
    }

    private void put(int tray, int place, long v) {
        int bits = 8 << sorts.get(tray);
        rows.get(tray)[place] = v << 64 - bits >> 64 - bits;
    }

    public boolean write(int tray, int place, long v) {
        return yes(() -> {
            no(place < 0 | place >= row(tray).length, 3);
            put(tray, place, v);
        });
    }

    public long read(int tray, int place) {
        return call(() -> {
            no(place < 0 | place >= row(tray).length, 3);
            return row(tray)[place];
        }, -1);
    }

    public boolean pour(int from, int place, int to, int at, int many) {
        return yes(() -> {
            in(from, 0, 3);
            in(to, 0, 3);
            no(place < 0 || at < 0 || many < 0, 1);
            row(from);
            row(to);
            no(!sorts.get(from).equals(sorts.get(to)), 8);
            no((long) place + many > row(from).length || (long) at + many > row(to).length, 3);
            long[] was = row(from).clone();
            for (int i = 0; i < many; i++) {
                row(to)[at + i] = was[place + i];
            }
        });
    }

    public int feed(int a, int b, int c, int d, int e) {
        if (tape.length > 880) {
            return -1;
        }
        java.nio.ByteBuffer buffer = java.nio.ByteBuffer.allocate(tape.length + 20);
        buffer.put(tape).putInt(a).putInt(b).putInt(c).putInt(d).putInt(e);
        tape = buffer.array();
        return tape.length;
    }

    public int glen(int n) {
        return num(() -> {
            in(n, 0, tape.length);
            byte[] text = Arrays.copyOf(tape, n);
            tape = new byte[0];
            try {
                now = readGlen(new Tokens(text));
                fault = 0;
                place = -1;
            } catch (Fault f) {
                fault = f.kind;
                place = f.place;
                throw new No(9);
            }
            return now.things.size();
        });
    }

    private static World readGlen(Tokens in) {
        World w = new World();
        List<String> told = new ArrayList<>();
        List<String> names = new ArrayList<>();
        while (!in.sees("")) {
            Token part = in.need("long", "load", "odds", "stream", "thing", "mill");
            String p = part.s;
            boolean once = !p.equals("thing") && !p.equals("mill");
            boolean late = p.equals("long") && (told.contains("stream") || told.contains("thing") || told.contains("mill"));
            if (once && told.contains(p) || late) {
                throw new Fault(5, part.place);
            }
            if (p.equals("thing") && w.things.size() == 8 || p.equals("mill") && w.mills.size() == 4) {
                throw new Fault(6, part.place);
            }
            told.add(p);
            switch (p) {
                case "long" -> w.cells = in.number(2, 16);
                case "load" -> w.load = in.number(1, 40);
                case "odds" -> w.odds = in.number(0, 16);
                case "stream" -> {
                    w.stream = in.number(0, w.cells - 1);
                    if (in.sees("up")) {
                        in.next();
                        w.down = false;
                    }
                }
                case "thing" -> w.things.add(readThing(in, w.cells, names));
                default -> {
                    Mill m = new Mill();
                    m.name = newName(in, names);
                    in.need("at");
                    m.cell = in.number(0, w.cells - 1);
                    m.kind = List.of("up", "down", "both").indexOf(in.need("up", "down", "both").s);
                    w.mills.add(m);
                }
            }
            in.need(";");
        }
        return w;
    }

    private static Thing readThing(Tokens in, int cells, List<String> names) {
        Thing t = new Thing();
        t.name = newName(in, names);
        in.need("weighs");
        t.weight = in.number(0, 9);
        in.need("grips");
        t.grip = in.number(1, 24);
        in.need("minds");
        t.mind = in.number(1, 24);
        if (in.sees("lies")) {
            in.next();
            t.where = 'l';
            t.cell = in.number(0, cells - 1);
        }
        return t;
    }

    private static String newName(Tokens in, List<String> names) {
        Token name = in.name();
        if (names.contains(name.s)) {
            throw new Fault(3, name.place);
        }
        names.add(name.s);
        return name.s;
    }

    private int stepCount;

    public int days(int n) {
        return num(() -> {
            in(n, 0, Math.min(300, tape.length));
            byte[] text = Arrays.copyOf(tape, n);
            tape = new byte[0];
            stepCount = 0;
            try {
                Tokens in = new Tokens(text);
                List<Step> steps = readSteps(in, 0);
                in.need("");
                now.days = steps;
                fault = 0;
                place = -1;
            } catch (Fault f) {
                fault = f.kind;
                place = f.place;
                throw new No(9);
            }
            return stepCount;
        });
    }

    private List<Step> readSteps(Tokens in, int depth) {
        List<Step> steps = new ArrayList<>();
        while (!in.sees("") && !in.sees("end")) {
            Token word = in.need("hour", "throw", "fetch", "any", "when", "loop", "stop");
            if (++stepCount > 30) {
                throw new Fault(6, word.place);
            }
            boolean block = word.s.equals("when") || word.s.equals("loop");
            if (block && depth == 3) {
                throw new Fault(7, word.place);
            }
            int which = -1;
            int number = 0;
            String test = null;
            String compares = null;
            switch (word.s) {
                case "hour" -> number = in.number(1, 24);
                case "throw" -> {
                    which = thingBy(in);
                    number = in.number(0, now.cells - 1);
                }
                case "fetch" -> which = thingBy(in);
                case "loop" -> number = in.number(1, 99);
                case "when" -> {
                    test = in.need("lies", "runs", "at", "ground").s;
                    if (test.equals("lies")) {
                        which = thingBy(in);
                    } else if (test.equals("runs")) {
                        number = in.need("down", "up").s.equals("down") ? 1 : 0;
                    } else {
                        which = test.equals("ground") ? millBy(in) : -1;
                        compares = in.need("<", ">", "=").s;
                        number = in.number(0, test.equals("at") ? 15 : 9999);
                    }
                }
                default -> {
                }
            }
            in.need(";");
            List<Step> body = null;
            if (block) {
                body = readSteps(in, depth + 1);
                in.need("end");
                in.need(";");
            }
            steps.add(new Step(word.s, which, number, test, compares, body));
        }
        return steps;
    }

    private int thingBy(Tokens in) {
        Token name = in.name();
        for (int i = 0; i < now.things.size(); i++) {
            if (name.s.equals(now.things.get(i).name)) {
                return i;
            }
        }
        throw new Fault(3, name.place);
    }

    private int millBy(Tokens in) {
        Token name = in.name();
        for (int i = 0; i < now.mills.size(); i++) {
            if (name.s.equals(now.mills.get(i).name)) {
                return i;
            }
        }
        throw new Fault(3, name.place);
    }

    public int fault(int what) {
        return what == 0 ? fault : what == 1 ? place : -1;
    }

    public int told(int what) {
        return num(() -> {
            in(what, 0, 14);
            int remembered = 0;
            for (int i = 0; i < now.things.size(); i++) {
                remembered |= now.things.get(i).remembered() ? 1 << i : 0;
            }
            return new int[] {now.things.size(), now.mills.size(), now.cells, now.load, now.odds, now.hour,
                now.stream, now.down ? 1 : 0, now.turns, now.set("a"), now.set("l"), now.set("c"), now.set("h"),
                remembered, now.carriedWeight()}[what];
        });
    }

    public int thing(int thing, int what) {
        return num(() -> {
            Thing t = t(thing);
            in(what, 0, 5);
            return new int[] {t.weight, t.grip, t.mind, "alch".indexOf(t.where), t.out() ? 0 : t.hours, t.homes}[what];
        });
    }

    public int cellOf(int thing) {
        return num(() -> {
            Thing t = t(thing);
            no(t.out(), 6);
            return t.where == 'c' ? now.stream : t.cell;
        });
    }

    public int mill(int mill, int what) {
        return num(() -> {
            Mill m = m(mill);
            in(what, 0, 2);
            return new int[] {m.cell, m.kind, m.ground}[what];
        });
    }

    public int goal() {
        return num(() -> now.goal() == null ? now.cells - 1 : now.goal().cell);
    }

    public int goalThing() {
        return num(() -> {
            no(now.goal() == null, 6);
            return now.things.indexOf(now.goal());
        });
    }

    public int hour(int many) {
        return num(() -> {
            in(many, 1, 168);
            no(now.hour + many > 9999, 4);
            int was = now.turns;
            now = now.after(many);
            return now.turns - was;
        });
    }

    public boolean toss(int thing, int cell) {
        return yes(() -> {
            Thing t = t(thing);
            cell(cell);
            no(!t.out(), 7);
            now = now.with(thing, cell);
        });
    }

    public int fetch(int thing) {
        return num(() -> {
            Thing t = t(thing);
            no(t.where != 'l', 7);
            t.where = 'a';
            t.hours = 0;
            return t.cell;
        });
    }

    public boolean grip(int thing, int hours) {
        return yes(() -> {
            Thing t = t(thing);
            in(hours, 1, 24);
            t.grip = hours;
        });
    }

    public boolean mind(int thing, int hours) {
        return yes(() -> {
            Thing t = t(thing);
            in(hours, 1, 24);
            t.mind = hours;
        });
    }

    public int make(int weight, int grip, int mind) {
        return num(() -> {
            in(weight, 0, 9);
            in(grip, 1, 24);
            in(mind, 1, 24);
            no(now.things.size() == 8, 4);
            Thing t = new Thing();
            t.weight = weight;
            t.grip = grip;
            t.mind = mind;
            now.things.add(t);
            return now.things.size() - 1;
        });
    }

    public int build(int cell, int kind) {
        return num(() -> {
            cell(cell);
            in(kind, 0, 2);
            no(now.mills.size() == 4, 4);
            Mill m = new Mill();
            m.cell = cell;
            m.kind = kind;
            now.mills.add(m);
            return now.mills.size() - 1;
        });
    }

    public boolean rule(int what, int much) {
        return yes(() -> {
            in(what, 3, 4);
            in(much, what == 3 ? 1 : 0, what == 3 ? 40 : 16);
            if (what == 3) {
                now.load = much;
            } else {
                now.odds = much;
            }
        });
    }

    public int atIn(int hours) {
        return num(() -> {
            in(hours, 0, 400);
            return now.after(hours).stream;
        });
    }

    public int carriedIn(int hours) {
        return num(() -> {
            in(hours, 0, 400);
            return now.after(hours).set("c");
        });
    }

    private static int first(World from, int least, int most, BiPredicate<World, World> p) {
        World w = from;
        for (int i = least; i <= most; i++) {
            World v = w.after(1);
            if (p.test(w, v)) {
                return i;
            }
            w = v;
        }
        return -1;
    }

    private static int orNone(int x) {
        no(x == -1, 6);
        return x;
    }

    public int homeIn(int thing) {
        return num(() -> {
            t(thing);
            return orNone(first(now, 0, 400, (w, v) -> w.things.get(thing).where == 'h'));
        });
    }

    public int turnsIn(int hours) {
        return num(() -> {
            in(hours, 0, 400);
            return now.after(hours).turns - now.turns;
        });
    }

    public int turnIn() {
        return num(() -> orNone(first(now, 0, 399, (w, v) -> v.turns > w.turns)));
    }

    public int groundIn(int mill, int hours) {
        return num(() -> {
            Mill m = m(mill);
            in(hours, 0, 400);
            return now.after(hours).mills.get(mill).ground - m.ground;
        });
    }

    public int quietIn() {
        return num(() -> orNone(first(now, 0, 400, (w, v) -> w.set("lc") == 0)));
    }

    public int ring() {
        return num(() -> {
            Map<String, Integer> seen = new HashMap<>();
            World w = now;
            for (int i = 0; i <= 200; i++) {
                Integer j = seen.put(w.picture(), i);
                if (j != null) {
                    return i - j;
                }
                w = w.after(1);
            }
            throw new No(6);
        });
    }

    public int aim(int thing, int hour) {
        return num(() -> {
            Thing t = t(thing);
            in(hour, 0, 60);
            no(!t.out(), 7);
            for (int c = 0; c < now.cells; c++) {
                if (first(now.with(thing, c), 0, 399, (w, v) -> v.turns > w.turns) == hour) {
                    return c;
                }
            }
            throw new No(6);
        });
    }

    private int[] soon(int thing) {
        no(!t(thing).out(), 7);
        int[] best = null;
        for (int c = 0; c < now.cells; c++) {
            int h = first(now.with(thing, c), 0, 400, (w, v) -> w.things.get(thing).where == 'h');
            if (h >= 0 && (best == null || h < best[1])) {
                best = new int[] {c, h};
            }
        }
        no(best == null, 6);
        return best;
    }

    public int soonest(int thing) {
        return num(() -> soon(thing)[0]);
    }

    public int soonestIn(int thing) {
        return num(() -> soon(thing)[1]);
    }

    private int[] driven(int mill, int thing, int other, int hours) {
        Mill m = m(mill);
        Thing a = t(thing);
        Thing b = t(other);
        no(a == b, 1);
        in(hours, 0, 48);
        no(!a.out() || !b.out(), 7);
        int[] best = {-1, -1, -1};
        for (int c = 0; c < now.cells * now.cells; c++) {
            World w = now.with(thing, c / now.cells).with(other, c % now.cells).after(hours);
            int g = w.mills.get(mill).ground - m.ground;
            if (g > best[0]) {
                best = new int[] {g, c / now.cells, c % now.cells};
            }
        }
        return best;
    }

    public int drive(int mill, int thing, int other, int hours) {
        return num(() -> driven(mill, thing, other, hours)[0]);
    }

    public int driveCell(int mill, int thing, int other, int hours, int what) {
        return num(() -> {
            in(what, 0, 1);
            return driven(mill, thing, other, hours)[1 + what];
        });
    }

    private boolean[] turning(int thing, int mind) {
        World w = now.copy();
        w.things.get(thing).mind = mind;
        boolean[] turning = new boolean[61];
        for (int i = 0; i < 61; i++) {
            turning[i] = w.after(i + 1).turns > w.after(i).turns;
        }
        return turning;
    }

    private List<Integer> minds(int thing, int tray, int n) {
        t(thing);
        in(n, 0, 20);
        long[] row = row(tray);
        no(row.length < 2 * n, 3);
        for (int i = 0; i < n; i++) {
            no(row[2 * i] < 0 || row[2 * i] > 60 || row[2 * i + 1] != 0 && row[2 * i + 1] != 1, 5);
        }
        List<Integer> minds = new ArrayList<>();
        for (int mind = 1; mind <= 24; mind++) {
            boolean[] turning = turning(thing, mind);
            boolean all = true;
            for (int i = 0; i < n; i++) {
                all &= turning[(int) row[2 * i]] == (row[2 * i + 1] == 1);
            }
            if (all) {
                minds.add(mind);
            }
        }
        return minds;
    }

    public int minded(int thing, int tray, int n) {
        return num(() -> minds(thing, tray, n).size());
    }

    public int mindedAt(int thing, int tray, int n, int what) {
        return num(() -> {
            in(what, 0, 1);
            List<Integer> minds = minds(thing, tray, n);
            no(minds.isEmpty(), 6);
            return minds.get(what == 0 ? 0 : minds.size() - 1);
        });
    }

    public int ask(int thing, int tray, int n) {
        return num(() -> {
            List<Integer> minds = minds(thing, tray, n);
            no(minds.size() < 2, 6);
            int[] with = new int[61];
            for (int mind : minds) {
                boolean[] turning = turning(thing, mind);
                for (int h = 0; h < 61; h++) {
                    with[h] += turning[h] ? 1 : 0;
                }
            }
            int best = 0;
            for (int h = 1; h < 61; h++) {
                if (Math.max(with[h], minds.size() - with[h]) < Math.max(with[best], minds.size() - with[best])) {
                    best = h;
                }
            }
            return best;
        });
    }

    private int weigh(int set) {
        int sum = 0;
        for (int i = 0; i < now.things.size(); i++) {
            sum += (set & 1 << i) != 0 ? now.things.get(i).weight : 0;
        }
        return sum;
    }

    public int heaviest() {
        return num(() -> {
            int best = 0;
            for (int set = 255; set > 0; set--) {
                if ((set & now.set("l")) == set && weigh(set) + now.carriedWeight() <= now.load) {
                    int more = weigh(set) - weigh(best);
                    int fewer = Integer.bitCount(best) - Integer.bitCount(set);
                    if (more > 0 || more == 0 && (fewer > 0 || fewer == 0 && set < best)) {
                        best = set;
                    }
                }
            }
            return best;
        });
    }

    public int heaviestWeight() {
        return num(() -> weigh(heaviest()));
    }

    private int[] sail(int cell, int other) {
        cell(cell);
        cell(other);
        int wait = first(now, 0, 400, (w, v) -> w.stream == cell);
        no(wait < 0, 6);
        int in = first(now.after(wait), wait, 400, (w, v) -> w.stream == other);
        no(in < 0, 6);
        return new int[] {in, wait};
    }

    public int ride(int cell, int other) {
        return num(() -> sail(cell, other)[0]);
    }

    public int waits(int cell, int other) {
        return num(() -> sail(cell, other)[1]);
    }

    /** The value of a game for the first, with the move that the one whose turn it is makes. */
    private static int[] play(World from, int mill, int other, int turns, boolean firsts) {
        if (turns == 0) {
            return new int[] {0, -1, -1};
        }
        int[] best = null;
        for (int i = 0; i <= from.things.size() * from.cells; i++) {
            int thing = i / from.cells;
            int cell = i % from.cells;
            boolean none = thing == from.things.size();
            if (!none && !from.things.get(thing).out()) {
                continue;
            }
            World w = (none ? from : from.with(thing, cell)).after(6);
            int gain = w.mills.get(mill).ground - from.mills.get(mill).ground
                    - w.mills.get(other).ground + from.mills.get(other).ground;
            int value = gain + play(w, mill, other, turns - 1, !firsts)[0];
            if (best == null || (firsts ? value > best[0] : value < best[0])) {
                best = new int[] {value, none ? -1 : thing, none ? -1 : cell};
            }
        }
        return best;
    }

    public int game(int mill, int other, int turns) {
        return num(() -> {
            m(mill);
            m(other);
            no(mill == other, 1);
            in(turns, 0, 2);
            return play(now, mill, other, turns, true)[0];
        });
    }

    public int moveOf(int mill, int other, int turns, int what) {
        return num(() -> {
            m(mill);
            m(other);
            no(mill == other, 1);
            in(turns, 1, 2);
            in(what, 0, 1);
            return orNone(play(now, mill, other, turns, true)[1 + what]);
        });
    }

    public boolean share(int mill) {
        return yes(() -> {
            Mill m = m(mill);
            int all = now.mills.stream().mapToInt(x -> x.ground).sum();
            no(all == 0, 6);
            fraction(BigInteger.valueOf(m.ground), BigInteger.valueOf(all));
        });
    }

    public boolean rain(int n, int k) {
        return yes(() -> {
            in(n, 0, 12);
            in(k, 0, 12);
            // row[j]: in how many ways j hours of those so far are wet
            BigInteger[] row = new BigInteger[14];
            Arrays.fill(row, BigInteger.ZERO);
            row[0] = BigInteger.ONE;
            for (int i = 0; i < n; i++) {
                for (int j = 13; j >= 0; j--) {
                    BigInteger wet = j == 0 ? BigInteger.ZERO : row[j - 1].multiply(BigInteger.valueOf(now.odds));
                    row[j] = row[j].multiply(BigInteger.valueOf(16 - now.odds)).add(wet);
                }
            }
            BigInteger sum = BigInteger.ZERO;
            for (int j = k; j < 14; j++) {
                sum = sum.add(row[j]);
            }
            fraction(sum, BigInteger.valueOf(16).pow(n));
        });
    }

    public int copyHours(int tray) {
        return num(() -> {
            no(row(tray).length < now.things.size(), 3);
            for (int i = 0; i < now.things.size(); i++) {
                put(tray, i, now.things.get(i).out() ? 0 : now.things.get(i).hours);
            }
            return now.things.size();
        });
    }

    static final class Stop extends RuntimeException {
        private static final long serialVersionUID = 1L;
    }

    /** Goes through the days of a world by a seed. */
    static final class Living {
        final World w;
        int s;
        int steps = 0;
        int missed = 0;
        int left = 0;

        Living(World w, int seed) {
            this.w = w;
            this.s = seed;
            try {
                all(w.days);
            } catch (Stop stop) {
                // the days are over
            }
        }

        int draw(int n) {
            s = Math.floorMod(s * 3169 + 11393, 65536);
            return Math.floorDiv(s, 8) % n;
        }

        void all(List<Step> list) {
            for (Step step : list) {
                if (steps == 300) {
                    left = 1;
                    throw new Stop();
                }
                steps++;
                one(step);
            }
        }

        void one(Step step) {
            switch (step.word) {
                case "hour" -> {
                    boolean can = w.hour + step.number <= 9999;
                    missed += can ? 0 : 1;
                    for (int i = 0; can && i < step.number; i++) {
                        w.hourGoesBy();
                    }
                }
                case "throw" -> thrown(step.thing, step.number);
                case "fetch" -> {
                    Thing t = w.things.get(step.thing);
                    missed += t.where == 'l' ? 0 : 1;
                    t.hours = t.where == 'l' ? 0 : t.hours;
                    t.where = t.where == 'l' ? 'a' : t.where;
                }
                case "any" -> {
                    if (w.things.isEmpty()) {
                        missed++;
                    } else {
                        int thing = draw(w.things.size());
                        thrown(thing, draw(w.cells));
                    }
                }
                case "loop" -> {
                    for (int i = 0; i < step.number; i++) {
                        all(step.body);
                    }
                }
                case "when" -> {
                    if (holds(step)) {
                        all(step.body);
                    }
                }
                default -> throw new Stop();
            }
        }

        void thrown(int thing, int cell) {
            Thing t = w.things.get(thing);
            if (t.out()) {
                t.where = 'l';
                t.cell = cell;
                t.hours = 0;
            } else {
                missed++;
            }
        }

        boolean holds(Step step) {
            if (step.test.equals("lies")) {
                return w.things.get(step.thing).where == 'l';
            }
            if (step.test.equals("runs")) {
                return w.down == (step.number == 1);
            }
            int x = step.test.equals("at") ? w.stream : w.mills.get(step.thing).ground;
            return Integer.signum(Integer.compare(x, step.number)) == "<=>".indexOf(step.compares) - 1;
        }
    }

    public int live(int seed) {
        return num(() -> {
            in(seed, 0, 9999);
            no(now.days == null, 6);
            World was = now.copy();
            Living l = new Living(now, seed);
            lived = new int[] {l.missed, now.hour - was.hour, now.turns - was.turns, now.homes() - was.homes(), l.left};
            return l.steps;
        });
    }

    public int lived(int what) {
        return num(() -> {
            in(what, 0, 4);
            no(lived == null, 6);
            return lived[what];
        });
    }

    public boolean mean(int seed, int many) {
        return yes(() -> {
            in(seed, 0, 9999);
            in(many, 1, 20);
            in(seed + many - 1, 0, 9999);
            no(now.days == null, 6);
            int sum = 0;
            for (int i = 0; i < many; i++) {
                World w = now.copy();
                new Living(w, seed + i);
                sum += w.homes();
            }
            fraction(BigInteger.valueOf(sum), BigInteger.valueOf(many));
        });
    }

    public int mark() {
        return num(() -> {
            no(marks.size() == 3, 4);
            marks.add(now.copy());
            return marks.size();
        });
    }

    public int undo() {
        return num(() -> {
            no(marks.isEmpty(), 6);
            now = marks.remove(marks.size() - 1);
            return marks.size();
        });
    }
}
