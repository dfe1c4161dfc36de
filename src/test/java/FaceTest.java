import java.io.IOException;
import java.lang.reflect.Constructor;
import java.lang.reflect.Field;
import java.lang.reflect.Method;
import java.lang.reflect.Modifier;
import java.nio.file.Files;
import java.nio.file.Path;
import java.util.ArrayList;
import java.util.List;
import java.util.Set;
import java.util.TreeSet;
import java.util.regex.Matcher;
import java.util.regex.Pattern;

/** The face is the document's and nothing else; the source keeps to LANGUAGE.md where a test can see it. */
public final class FaceTest {
    private static final String FACE = """
            int status()
            long top()
            long bottom()
            boolean tray(int,int,int)
            boolean write(int,int,long)
            long read(int,int)
            boolean pour(int,int,int,int,int)
            int feed(int,int,int,int,int)
            int glen(int)
            int days(int)
            int fault(int)
            int told(int)
            int thing(int,int)
            int cellOf(int)
            int mill(int,int)
            int goal()
            int goalThing()
            int hour(int)
            boolean toss(int,int)
            int fetch(int)
            boolean grip(int,int)
            boolean mind(int,int)
            int make(int,int,int)
            int build(int,int)
            boolean rule(int,int)
            int atIn(int)
            int carriedIn(int)
            int homeIn(int)
            int turnsIn(int)
            int turnIn()
            int groundIn(int,int)
            int quietIn()
            int ring()
            int aim(int,int)
            int soonest(int)
            int soonestIn(int)
            int drive(int,int,int,int)
            int driveCell(int,int,int,int,int)
            int minded(int,int,int)
            int mindedAt(int,int,int,int)
            int ask(int,int,int)
            int heaviest()
            int heaviestWeight()
            int ride(int,int)
            int waits(int,int)
            int game(int,int,int)
            int moveOf(int,int,int,int)
            boolean share(int)
            boolean rain(int,int)
            int copyHours(int)
            int live(int)
            int lived(int)
            boolean mean(int,int)
            int mark()
            int undo()
            """;

    private static final List<String> WRONG = new ArrayList<>();

    public static void main(String[] args) throws IOException {
        Class<?> face = ForgetStream.class;
        check(Modifier.isPublic(face.getModifiers()) && Modifier.isFinal(face.getModifiers()), "public and final");
        Set<String> due = new TreeSet<>(List.of(FACE.strip().split("\\s*\n\\s*")));
        Set<String> seen = new TreeSet<>();
        Set<String> names = new TreeSet<>();
        for (Method m : face.getDeclaredMethods()) {
            if (Modifier.isPublic(m.getModifiers())) {
                seen.add(shape(m));
                names.add(m.getName());
            } else {
                check(Modifier.isPrivate(m.getModifiers()), "private: " + m);
            }
        }
        check(due.equals(seen), "the methods " + seen + " are not " + due);
        lookAtMembers(face, names);
        lookAtSource(Files.readString(Path.of("src/main/java/ForgetStream.java")));
        WRONG.forEach(System.out::println);
        if (!WRONG.isEmpty()) {
            System.exit(1);
        }
    }

    private static void lookAtMembers(Class<?> face, Set<String> names) {
        for (Field f : face.getDeclaredFields()) {
            if (f.getName().equals("NONE")) {
                check(Modifier.isPublic(f.getModifiers()) && Modifier.isStatic(f.getModifiers()), "NONE is public");
            } else {
                check(Modifier.isPrivate(f.getModifiers()), "private: " + f);
            }
        }
        Constructor<?>[] constructors = face.getDeclaredConstructors();
        check(constructors.length == 1 && Modifier.isPublic(constructors[0].getModifiers()), "one constructor");
        Class<?>[] inside = face.getDeclaredClasses();
        check(inside.length < 12, "at most twelve classes, there are " + (inside.length + 1));
        for (Class<?> c : withOuter(face, inside)) {
            int fields = 0;
            for (Field f : c.getDeclaredFields()) {
                fields += Modifier.isStatic(f.getModifiers()) ? 0 : 1;
                check(!Modifier.isStatic(f.getModifiers()) || Modifier.isFinal(f.getModifiers()), "final: " + f);
            }
            check(fields <= 20, "fields of " + c + ": " + fields);
            check(c == face || Modifier.isStatic(c.getModifiers()), "static: " + c);
            for (Method m : c.getDeclaredMethods()) {
                check(m.getParameterCount() <= 7, "parameters of " + m);
                check(c == face && Modifier.isPublic(m.getModifiers()) || !names.contains(m.getName()),
                        "bears a public name: " + m);
            }
        }
    }

    private static List<Class<?>> withOuter(Class<?> face, Class<?>[] inside) {
        List<Class<?>> all = new ArrayList<>(List.of(inside));
        all.add(face);
        return all;
    }

    private static void lookAtSource(String source) {
        String code = source.replaceAll("(?s)/\\*.*?\\*/", "").replaceAll("//[^\n]*", "")
                .replaceAll("\"(\\\\.|[^\"\\\\])*\"", "\"\"");
        Matcher banned = Pattern.compile("\\b(throw|try|catch|synchronized|assert|import|package|->|::|Object|System\\.(?!arraycopy)\\w+)\\b|->|::").matcher(code);
        while (banned.find()) {
            check(false, "the source has " + banned.group());
        }
        Matcher library = Pattern.compile("\\b(Math|Integer|Long)\\.(?!(min|max|bitCount)\\()\\w+").matcher(code);
        while (library.find()) {
            check(false, "the library's " + library.group());
        }
        int begin = -1;
        String[] lines = source.split("\n");
        for (int i = 0; i < lines.length; i++) {
            if (lines[i].matches("(    |        )[\\w\\[\\]]+.*\\) \\{")) {
                begin = i;
            } else if (begin >= 0 && lines[i].matches("(    |        )\\}")) {
                check(i - begin <= 60, "a method of " + (i - begin) + " lines: " + lines[begin]);
                begin = -1;
            }
        }
    }

    private static String shape(Method m) {
        StringBuilder s = new StringBuilder(m.getReturnType() + " " + m.getName() + "(");
        for (Class<?> p : m.getParameterTypes()) {
            s.append(s.charAt(s.length() - 1) == '(' ? "" : ",").append(p);
        }
        return s + ")";
    }

    private static void check(boolean holds, String what) {
        if (!holds) {
            WRONG.add("not so: " + what);
        }
    }
}
