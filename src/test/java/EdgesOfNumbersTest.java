import java.lang.reflect.InvocationTargetException;
import java.lang.reflect.Method;

/**
 * Each number of each call, a step inside and outside of what it can be, and at the ends of int: outside the
 * call gives NONE or false with its status, and changes nothing else ("With another STATUS than 0 a call gives
 * NONE, or false, and changes nothing else"); inside it is refused for another reason at most.
 */
public final class EdgesOfNumbersTest {
    /**
     * A call on House.full() with numbers that can be, then for each of these: least..most:status, or
     * least..most:status below/status above, or - where every number can be.
     */
    private static final String CALLS = """
            tray 0 1 3        | 0..3:1 0..3:1 0..60:1
            write 0 1 7       | 0..3:1 0..3:3 -
            read 0 1          | 0..3:1 0..3:3
            pour 0 0 1 0 2    | 0..3:1 0..2:1/3 0..3:1 0..58:1/3 0..4:1/3
            glen 7            | 0..20:1
            days 7            | 0..20:1
            told 5            | 0..14:1
            thing 1 1         | 0..4:1 0..5:1
            cellOf 1          | 0..4:1
            mill 1 1          | 0..3:1 0..2:1
            hour 5            | 1..168:1
            toss 3 1          | 0..4:1 0..4:1
            fetch 2           | 0..4:1
            grip 2 7          | 0..4:1 1..24:1
            mind 2 7          | 0..4:1 1..24:1
            make 1 1 1        | 0..9:1 1..24:1 1..24:1
            build 1 1         | 0..4:1 0..2:1
            rule 3 7          | 3..4:1 1..40:1
            rule 4 7          | 3..4:1 0..16:1
            atIn 7            | 0..400:1
            carriedIn 7       | 0..400:1
            homeIn 1          | 0..4:1
            turnsIn 7         | 0..400:1
            groundIn 1 7      | 0..3:1 0..400:1
            aim 3 7           | 0..4:1 0..60:1
            soonest 3         | 0..4:1
            soonestIn 3       | 0..4:1
            drive 1 3 4 7     | 0..3:1 0..4:1 0..4:1 0..48:1
            driveCell 1 3 4 7 0 | 0..3:1 0..4:1 0..4:1 0..48:1 0..1:1
            minded 2 1 7      | 0..4:1 0..3:1 0..20:1
            mindedAt 2 1 7 0  | 0..4:1 0..3:1 0..20:1 0..1:1
            ask 2 1 7         | 0..4:1 0..3:1 0..20:1
            ride 1 3          | 0..4:1 0..4:1
            waits 1 3         | 0..4:1 0..4:1
            game 0 3 1        | 0..3:1 0..3:1 0..2:1
            moveOf 0 3 1 0    | 0..3:1 0..3:1 1..2:1 0..1:1
            share 1           | 0..3:1
            rain 3 2          | 0..12:1 0..12:1
            copyHours 1       | 0..3:1
            live 7            | 0..9999:1
            lived 1           | 0..4:1
            mean 5 3          | 0..9997:1 1..20:1
            """;

    /** Of these one thing, one mill twice is a number that can't be, too. */
    private static final String TWICE = "drive driveCell game moveOf";

    private static final String UNTOUCHED = House.look(House.full());

    public static void main(String[] args) throws ReflectiveOperationException {
        for (String line : CALLS.strip().split("\n")) {
            String[] halves = line.split("\\|");
            String[] words = halves[0].strip().split(" +");
            String[] ends = halves[1].strip().split(" +");
            lookAtCall(words, ends);
        }
        Checks.end();
    }

    private static void lookAtCall(String[] words, String[] ends) throws ReflectiveOperationException {
        long[] numbers = new long[words.length - 1];
        for (int i = 0; i < numbers.length; i++) {
            numbers[i] = Long.parseLong(words[i + 1]);
        }
        for (int i = 0; i < ends.length; i++) {
            if (ends[i].equals("-")) {
                continue;
            }
            String[] parts = ends[i].split("\\.\\.|:|/");
            long least = Long.parseLong(parts[0]);
            long most = Long.parseLong(parts[1]);
            int below = Integer.parseInt(parts[2]);
            int above = Integer.parseInt(parts[parts.length - 1]);
            refused(words[0], with(numbers, i, least - 1), below);
            refused(words[0], with(numbers, i, Integer.MIN_VALUE), below);
            refused(words[0], with(numbers, i, most + 1), above);
            refused(words[0], with(numbers, i, Integer.MAX_VALUE), above);
            notRefused(words[0], with(numbers, i, least), below, above);
            notRefused(words[0], with(numbers, i, most), below, above);
        }
    }

    private static long[] with(long[] numbers, int at, long number) {
        long[] all = numbers.clone();
        all[at] = number;
        return all;
    }

    private static void refused(String name, long[] numbers, int status) throws ReflectiveOperationException {
        ForgetStream x = House.full();
        String what = text(name, numbers);
        Object answer = call(x, name, numbers);
        Checks.due(what, number(answer), answer instanceof Boolean ? 0 : ForgetStream.NONE);
        Checks.due(what + ": status", x.status(), status);
        Checks.same(what + " changes nothing", House.look(x), UNTOUCHED);
    }

    private static void notRefused(String name, long[] numbers, int below, int above) throws ReflectiveOperationException {
        if (TWICE.contains(name) && twice(name, numbers)) {
            return;
        }
        ForgetStream x = House.full();
        call(x, name, numbers);
        Checks.due(text(name, numbers) + ": can be", x.status() == below || x.status() == above, false);
    }

    private static boolean twice(String name, long[] numbers) {
        return name.startsWith("drive") ? numbers[1] == numbers[2] : numbers[0] == numbers[1];
    }

    private static Object call(ForgetStream x, String name, long[] numbers) throws ReflectiveOperationException {
        for (Method m : ForgetStream.class.getMethods()) {
            if (m.getName().equals(name) && m.getParameterCount() == numbers.length) {
                Object[] all = new Object[numbers.length];
                for (int i = 0; i < all.length; i++) {
                    if (m.getParameterTypes()[i] == long.class) {
                        all[i] = numbers[i];
                    } else {
                        all[i] = (int) numbers[i];
                    }
                }
                return invoked(m, x, all);
            }
        }
        throw new NoSuchMethodException(name);
    }

    private static Object invoked(Method m, ForgetStream x, Object[] all) throws ReflectiveOperationException {
        try {
            return m.invoke(x, all);
        } catch (InvocationTargetException e) {
            System.out.println(m.getName() + " threw " + e.getCause());
            return Long.MIN_VALUE;
        }
    }

    private static long number(Object answer) {
        return answer instanceof Boolean ? (Boolean) answer ? 1 : 0 : ((Number) answer).longValue();
    }

    private static String text(String name, long[] numbers) {
        StringBuilder s = new StringBuilder(name).append('(');
        for (int i = 0; i < numbers.length; i++) {
            s.append(i == 0 ? "" : ", ").append(numbers[i]);
        }
        return s.append(')').toString();
    }
}
