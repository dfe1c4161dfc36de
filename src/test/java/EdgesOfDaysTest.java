/** The text of days at its ends: "==== 4.", promises 11 and 12. */
public final class EdgesOfDaysTest {
    private static final String GLEN = "long 5;thing a weighs 1 grips 1 minds 1;thing boat weighs 1 grips 1 minds 1;"
            + "mill m at 2 both;mill mm at 3 up;";
    private static final String[] WORDS = {"long", "load", "odds", "stream", "up", "down", "both", "thing", "weighs",
        "grips", "minds", "lies", "mill", "at", "hour", "throw", "fetch", "any", "when", "runs", "ground", "loop", "end",
        "stop"};
    private static final String STEPS = " hour throw fetch any when loop stop ";
    private static final String TESTS = " lies runs at ground ";

    public static void main(String[] args) {
        emptyText();
        longestText();
        aboveThreeHundredBytes();
        blanks();
        hours();
        cells();
        loops();
        cellsCompared();
        groundCompared();
        numbersOfFiveDigits();
        numbersOnly();
        thingsByName();
        millsByName();
        namesOfNineLetters();
        namesOfWhatIsMade();
        stepWords();
        testWords();
        ways();
        compares();
        semicolons();
        endWithoutBeginning();
        endAheadOfEnd();
        whereItEnds();
        thirtySteps();
        threeWithinEachOther();
        leastKindOfOneToken();
        firstAlongTheText();
        takenInPlace();
        Checks.end();
    }

    private static void taken(String text, int steps) {
        ForgetStream x = Checks.with(GLEN);
        Checks.ok(x, "11: " + text, Checks.days(x, text), steps);
        Checks.due("12: no fault: " + text, x.fault(0), 0);
        Checks.due("12: no place: " + text, x.fault(1), -1);
    }

    private static void fault(String text, int kind, int place) {
        ForgetStream x = Checks.with(GLEN);
        Checks.no(x, "11: " + text, Checks.days(x, text), 9);
        Checks.due("12: fault of " + text, x.fault(0), kind);
        Checks.due("12: place in " + text, x.fault(1), place);
        Checks.no(x, "52: none were taken: " + text, x.live(0), 6);
    }

    private static void faultAtEnd(String ahead, String token, int kind) {
        fault(ahead + token, kind, ahead.length());
    }

    /** "DAYS: {STEP}": none, too. */
    private static void emptyText() {
        taken("", 0);
        taken(" ", 0);
        taken("\n \n", 0);
    }

    /** "DAYS are a TEXT of at most 300 bytes" */
    private static void longestText() {
        taken(" ".repeat(296) + "any;", 1);
        taken("any;" + "\n".repeat(296), 1);
        fault(" ".repeat(297) + "any", 2, 300);
        fault(" ".repeat(299) + "?", 1, 299);
    }

    /** "1: above 300, too" */
    private static void aboveThreeHundredBytes() {
        ForgetStream x = Checks.with(GLEN);
        Checks.feed(x, "any;" + " ".repeat(316));
        Checks.no(x, "11: 301 of 320", x.days(301), 1);
        Checks.no(x, "11: all of 320", x.days(320), 1);
        Checks.no(x, "11: 321 of 320", x.days(321), 1);
        Checks.no(x, "52: none were taken", x.live(0), 6);
        Checks.ok(x, "11: 300 of 320", x.days(300), 1);
        Checks.no(x, "11: the tape is empty", x.days(1), 1);
    }

    /** "of such TOKENS" */
    private static void blanks() {
        taken("hour 1;\nany ;\n\nthrow\na\n1\n;", 3);
        taken("hour1;when at=1;end;when ground m<1;end;", 3);
        taken("when at = 1 ; end ;", 1);
        fault("hour\t1;", 1, 4);
        fault("hour 1;\r\n", 1, 7);
        fault("when at==1;end;", 2, 8);
        fault("when at<=1;end;", 2, 8);
    }

    /** "hour: so many (1 to 24)" */
    private static void hours() {
        taken("hour 1;hour 24;hour 0024;", 3);
        faultAtEnd("hour ", "0;", 4);
        faultAtEnd("hour ", "25;", 4);
        faultAtEnd("hour ", "9999;", 4);
    }

    /** "throw: into a CELL": one of this glen */
    private static void cells() {
        taken("throw a 0;throw a 4;", 2);
        faultAtEnd("throw a ", "5;", 4);
        faultAtEnd("throw boat ", "15;", 4);
        ForgetStream x = Checks.with("long 16;thing a weighs 1 grips 1 minds 1;");
        Checks.ok(x, "11: cell 15", Checks.days(x, "throw a 15;"), 1);
        Checks.no(x, "11: cell 16", Checks.days(x, "throw a 16;"), 9);
        Checks.due("12: a number that can't be", x.fault(0), 4);
    }

    /** "loop n (1 to 99)" */
    private static void loops() {
        taken("loop 1;end;loop 99;end;", 2);
        faultAtEnd("loop ", "0;end;", 4);
        faultAtEnd("loop ", "100;end;", 4);
    }

    /** "at: in which CELL the STREAM is (0 to 15)": though the glen has 5 cells */
    private static void cellsCompared() {
        taken("when at=0;end;when at<15;end;when at>15;end;", 3);
        faultAtEnd("when at=", "16;end;", 4);
        faultAtEnd("when at<", "16;end;", 4);
        faultAtEnd("when at>", "9999;end;", 4);
    }

    /** "ground: 0 to 9,999" */
    private static void groundCompared() {
        taken("when ground m=0;end;when ground mm>9999;end;when ground m<0000;end;", 3);
        faultAtEnd("when ground m=", "10000;end;", 1);
    }

    /** "1, 2 as above": a number of five digits */
    private static void numbersOfFiveDigits() {
        faultAtEnd("hour ", "00001;", 1);
        faultAtEnd("throw a ", "00001;", 1);
        faultAtEnd("throw ", "00001;", 1);
        faultAtEnd("loop ", "10000;end;", 1);
        faultAtEnd("when at=", "00001;", 1);
        faultAtEnd("hour 1;", "12345", 1);
    }

    /** Where a NUMBER must stand nothing else can. */
    private static void numbersOnly() {
        String[] ahead = {"hour ", "throw a ", "loop ", "when at=", "when ground m<"};
        for (String text : ahead) {
            faultAtEnd(text, "a;", 2);
            faultAtEnd(text, "up;", 2);
            faultAtEnd(text, ";", 2);
            faultAtEnd(text, "=1;", 2);
            faultAtEnd(text, "", 2);
            faultAtEnd(text, "?", 1);
        }
    }

    /** "3 a NAME that is no such one (.. else THINGS)" */
    private static void thingsByName() {
        taken("throw a 1;throw boat 1;fetch a;fetch boat;when lies a;end;when lies boat;end;", 6);
        String[] ahead = {"throw ", "fetch ", "when lies "};
        for (String text : ahead) {
            faultAtEnd(text, "b 1;", 3);
            faultAtEnd(text, "boa 1;", 3);
            faultAtEnd(text, "boats;", 3);
            faultAtEnd(text, "m 1;", 3);
            faultAtEnd(text, "mm;", 3);
            faultAtEnd(text, "zzzzzzzz;", 3);
            faultAtEnd(text, "1;", 2);
            faultAtEnd(text, ";", 2);
        }
    }

    /** "a MILL behind ground" */
    private static void millsByName() {
        taken("when ground m=1;end;when ground mm=1;end;", 2);
        faultAtEnd("when ground ", "a=1;", 3);
        faultAtEnd("when ground ", "boat=1;", 3);
        faultAtEnd("when ground ", "mmm=1;", 3);
        faultAtEnd("when ground ", "=1;", 2);
        faultAtEnd("when ground ", "1=1;", 2);
    }

    /** "a WORD of 9 letters and more where a NAME must stand"; no other word, either. */
    private static void namesOfNineLetters() {
        String[] ahead = {"throw ", "fetch ", "when lies ", "when ground "};
        for (String text : ahead) {
            faultAtEnd(text, "abcdefgh", 3);
            faultAtEnd(text, "abcdefghi", 2);
            faultAtEnd(text, "abcdefghijklmnopqrstuvwxyz", 2);
            for (String word : WORDS) {
                faultAtEnd(text, word, 2);
            }
        }
    }

    /** What make() and build() add has no name. */
    private static void namesOfWhatIsMade() {
        ForgetStream x = new ForgetStream();
        x.make(1, 1, 1);
        x.build(0, 0);
        for (char name = 'a'; name <= 'z'; name++) {
            Checks.no(x, "11: a thing " + name, Checks.days(x, "fetch " + name + ";"), 9);
            Checks.due("12: no such one", x.fault(0), 3);
            Checks.no(x, "11: a mill " + name, Checks.days(x, "when ground " + name + "=1;end;"), 9);
            Checks.due("12: no such one", x.fault(0), 3);
        }
    }

    private static void stepWords() {
        for (String word : WORDS) {
            if (!STEPS.contains(" " + word + " ")) {
                fault(word + " 1;", 2, 0);
                fault("loop 2;any;" + word + "s;", 2, 11);
            }
        }
        fault("a 1;", 2, 0);
        fault("hours 1;", 2, 0);
        fault("1;", 2, 0);
        fault(";", 2, 0);
        fault("=", 2, 0);
        taken("hour 1;throw a 1;fetch a;any;when at=1;end;loop 1;end;stop;", 7);
    }

    /** "TEST: lies NAME, or runs KIND (down, up), or at COMPARES NUMBER, or ground NAME COMPARES NUMBER." */
    private static void testWords() {
        for (String word : WORDS) {
            if (!TESTS.contains(" " + word + " ")) {
                faultAtEnd("when ", word + ";", 2);
            }
        }
        faultAtEnd("when ", "a;", 2);
        faultAtEnd("when ", "1;", 2);
        faultAtEnd("when ", ";", 2);
        faultAtEnd("when ", "", 2);
    }

    private static void ways() {
        taken("when runs up;end;when runs down;end;", 2);
        for (String word : WORDS) {
            if (!word.equals("up") && !word.equals("down")) {
                faultAtEnd("when runs ", word + ";", 2);
            }
        }
        faultAtEnd("when runs ", ";", 2);
        faultAtEnd("when runs ", "1;", 2);
    }

    /** "COMPARES: < or > or =" */
    private static void compares() {
        String[] ahead = {"when at ", "when ground m "};
        for (String text : ahead) {
            taken(text + "<1;end;", 1);
            taken(text + ">1;end;", 1);
            taken(text + "=1;end;", 1);
            faultAtEnd(text, ";1;end;", 2);
            faultAtEnd(text, "1;end;", 2);
            faultAtEnd(text, "a;end;", 2);
            faultAtEnd(text, "", 2);
            faultAtEnd(text + "<", "<1;end;", 2);
            faultAtEnd(text + "=", ";end;", 2);
        }
    }

    private static void semicolons() {
        String[] steps = {"hour 1", "throw a 1", "fetch a", "any", "when at=1", "when runs up", "when lies a",
            "when ground m=1", "loop 2", "stop", "loop 2;end"};
        for (String step : steps) {
            faultAtEnd(step + " ", "any", 2);
            faultAtEnd(step + " ", "=", 2);
            faultAtEnd(step + " ", "1", 2);
            faultAtEnd(step, "", 2);
            faultAtEnd(step + ";", ";", 2);
        }
    }

    /** "an end without a beginning" */
    private static void endWithoutBeginning() {
        fault("end;", 2, 0);
        fault("any;end;", 2, 4);
        fault("loop 2;end;end;", 2, 11);
        fault("loop 2;when at=1;end;end;end;", 2, 25);
    }

    /** "the text's end ahead of an end: 2" */
    private static void endAheadOfEnd() {
        faultAtEnd("loop 2;", "", 2);
        faultAtEnd("loop 2;any;  ", "", 2);
        faultAtEnd("when at=1;any;\n", "", 2);
        faultAtEnd("loop 2;loop 2;any;end;", "", 2);
        faultAtEnd("loop 2;loop 2;when at=1;end;end;", "", 2);
        taken("loop 2;loop 2;when at=1;end;end;end;", 3);
    }

    /** "(the end: the text's length ..)": a text broken off behind any of its tokens */
    private static void whereItEnds() {
        String[] parts = {"hour 1 ;", "throw a 1 ;", "fetch a ;", "any ;", "when lies a ; end ;", "when runs up ; end ;",
            "when at < 1 ; end ;", "when ground m > 1 ; end ;", "loop 2 ; stop ; end ;"};
        for (String part : parts) {
            taken(part, part.startsWith("loop") ? 2 : 1);
            String[] tokens = part.split(" ");
            StringBuilder s = new StringBuilder();
            for (int i = 0; i < tokens.length - 1; i++) {
                s.append(tokens[i]);
                fault(s.toString(), 2, s.length());
                fault(s + " \n", 2, s.length() + 2);
                s.append(' ');
            }
        }
    }

    /** "6 a 31st STEP (at its WORD; end is none)" */
    private static void thirtySteps() {
        String any29 = "any;".repeat(29);
        taken(any29, 29);
        taken(any29 + "stop;", 30);
        taken(any29 + "loop 2;end;", 30);
        String any30 = "any;".repeat(30);
        taken(any30, 30);
        for (String step : STEPS.strip().split(" ")) {
            faultAtEnd(any30, step + " 1;", 6);
            faultAtEnd(any30, step, 6);
        }
        faultAtEnd(any30, "end;", 2);
        faultAtEnd(any30, "up;", 2);
        faultAtEnd(any30, "?", 1);
        faultAtEnd("loop 2;" + "any;".repeat(29), "any;end;", 6);
        taken("loop 2;" + "any;".repeat(29) + "end;", 30);
        // the most ends that 300 bytes have room for
        taken("loop1;end;".repeat(30), 30);
        ForgetStream x = Checks.with(GLEN);
        Checks.days(x, "loop1;end;".repeat(30));
        Checks.ok(x, "52: ends count as none", x.live(0), 30);
        Checks.ok(x, "53: none is left", x.lived(4), 0);
    }

    /** "7 a when, loop within three others (at its WORD)" */
    private static void threeWithinEachOther() {
        String three = "loop 1;when at=1;loop 2;";
        taken(three + "any;end;end;end;", 4);
        faultAtEnd(three, "loop 1;end;end;end;end;", 7);
        faultAtEnd(three, "when at=1;end;end;end;end;", 7);
        faultAtEnd(three + "any;", "loop", 7);
        faultAtEnd(three, "when", 7);
        faultAtEnd("when at=1;when at=1;when at=1;", "when at=1;", 7);
        // behind an end there is room again
        taken(three + "end;loop 3;end;when at=1;end;end;end;", 5);
        taken(three + "end;end;end;" + three + "end;end;end;", 6);
        faultAtEnd(three + "end;loop 3;", "loop 3;", 7);
    }

    /** "of one TOKEN the least kind": a 31st step that is within three others, too. */
    private static void leastKindOfOneToken() {
        String deep = "any;".repeat(27) + "loop 1;loop 1;loop 1;";
        faultAtEnd(deep, "loop 1;", 6);
        faultAtEnd(deep, "when", 6);
        faultAtEnd(deep, "any;", 6);
        taken(deep + "end;end;end;", 30);
        faultAtEnd("any;".repeat(26) + "loop 1;loop 1;loop 1;", "loop 1;", 7);
    }

    private static void firstAlongTheText() {
        fault("throw b 9;?", 3, 6);
        fault("throw a 9;?", 4, 8);
        fault("hour 25;end;", 4, 5);
        fault("when lies b", 3, 10);
        fault("when ground a<10000", 3, 12);
        fault("when ground m<10000", 1, 14);
        fault("loop 0;end;end;", 4, 5);
        fault("any any;end;", 2, 4);
    }

    /** "Likewise the DAYS": in place of those ahead, which stay with 9. */
    private static void takenInPlace() {
        ForgetStream x = Checks.with(GLEN);
        Checks.ok(x, "11: three steps", Checks.days(x, "hour 1;any;any;"), 3);
        Checks.ok(x, "52: three", x.live(0), 3);
        Checks.no(x, "11: a fault", Checks.days(x, "hour 1;hour 1;hour 1;hour 0;"), 9);
        Checks.ok(x, "52: three still", x.live(0), 3);
        Checks.no(x, "11: a number that can't be", x.days(1), 1);
        Checks.ok(x, "52: three still", x.live(0), 3);
        Checks.ok(x, "11: one", Checks.days(x, "hour 2;"), 1);
        Checks.ok(x, "52: one", x.live(0), 1);
        Checks.ok(x, "53: of two hours", x.lived(1), 2);
        Checks.ok(x, "11: none", x.days(0), 0);
        Checks.ok(x, "52: none, but they are there", x.live(0), 0);
        Checks.ok(x, "54: they are there", x.mean(0, 20));
    }
}
