import java.io.IOException;
import java.lang.reflect.Method;
import java.lang.reflect.Modifier;
import java.nio.file.Files;
import java.nio.file.Path;
import java.util.ArrayList;
import java.util.List;

/** The Java in README.md stands here once more, to the letter, so that it runs and its answers are looked at. */
public final class ReadmeTest {
    private static final String SELF = "src/test/java/ReadmeTest.java";

    public static void main(String[] args) throws IOException {
        String readme = Files.readString(Path.of("README.md"));
        Checks.same("the Java in README.md", javaIn(readme), marked(Files.readString(Path.of(SELF))));
        for (Method m : ForgetStream.class.getDeclaredMethods()) {
            if (Modifier.isPublic(m.getModifiers())) {
                Checks.due("README.md names " + m.getName(), readme.matches("(?s).*`" + m.getName() + "(\\(\\))?`.*"), true);
            }
        }
        example();
        Checks.end();
    }

    private static void example() {
        // README begins
        ForgetStream x = new ForgetStream();
        String glen = "long 6; thing cup weighs 3 grips 9 minds 2 lies 0; mill old at 2 both;";
        feed(x, glen);
        int things = x.glen(glen.length());     // 1
        int turnIn = x.turnIn();                // 2: behind two hours it turns, for the cup
        int homeIn = x.homeIn(0);               // 11: then the cup is in the sea
        int net = x.make(1, 24, 3);             // 1: a second thing (weight, grip, mind), ashore
        boolean tossed = x.toss(0, 3);          // false: the first one lies
        int why = x.status();                   // 7: it can't be

        int marks = x.mark();                   // 1
        int turns = x.hour(5);                  // 1: it turned once in five hours
        int carried = x.told(11);               // 1: the set of thing 0
        int left = x.undo();                    // 0: all is as it was at the mark

        String days = "loop 3; hour 4; end; throw cup 2;";
        feed(x, days);
        int written = x.days(days.length());    // 3 steps
        int steps = x.live(0);                  // 5 steps were come to
        int cameHome = x.lived(3);              // 1
        boolean told = x.rain(2, 1);            // true: x.top() by x.bottom() is 7 by 16

        String wrong = "thing cup weighs 10";
        feed(x, wrong);
        int none = x.glen(wrong.length());      // NONE, status 9; the glen ahead is there still
        int fault = x.fault(0);                 // 4: a number that can't be
        int place = x.fault(1);                 // 17
        // README ends
        int[] got = {things, turnIn, homeIn, net, why, marks, turns, carried, left, written, steps, cameHome, fault, place};
        int[] due = {1, 2, 11, 1, 7, 1, 1, 1, 0, 3, 5, 1, 4, 17};
        for (int i = 0; i < due.length; i++) {
            Checks.due("README.md: number " + i, got[i], due[i]);
        }
        Checks.due("README.md: tossed", tossed, false);
        Checks.due("README.md: told", told, true);
        Checks.fraction(x, "README.md: rain", 7, 16);
        Checks.no(x, "README.md: a wrong glen", none, 9);
        Checks.ok(x, "README.md: the glen ahead is there", x.told(0), 2);
    }

    // README begins
    static void feed(ForgetStream x, String text) {
        for (int i = 0; i < text.length(); i += 20) {
            x.feed(four(text, i), four(text, i + 4), four(text, i + 8), four(text, i + 12), four(text, i + 16));
        }
    }

    static int four(String text, int at) {
        int four = 0;
        for (int i = at; i < at + 4; i++) {
            four = four << 8 | (i < text.length() ? text.charAt(i) : 0);
        }
        return four;
    }
    // README ends

    private static String javaIn(String readme) {
        return between(readme, "```java", "```");
    }

    private static String marked(String source) {
        return between(source, "// README begins", "// README ends");
    }

    /** The lines between these, without the blanks ahead of them and empty ones. */
    private static String between(String text, String begin, String end) {
        List<String> lines = new ArrayList<>();
        boolean inside = false;
        for (String line : text.split("\n")) {
            String bare = line.strip();
            if (inside && bare.equals(end)) {
                inside = false;
            } else if (bare.equals(begin)) {
                inside = true;
            } else if (inside && !bare.isEmpty()) {
                lines.add(bare);
            }
        }
        return String.join("\n", lines) + "\n";
    }
}
