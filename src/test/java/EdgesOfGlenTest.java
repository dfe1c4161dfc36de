/** The text of a glen at the ends of each word of it, each fault at its place: "Terms", promises 10, 12, 13 to 16. */
public final class EdgesOfGlenTest {
    private static final String[] RESERVED = {"long", "load", "odds", "stream", "up", "down", "both", "thing", "weighs",
        "grips", "minds", "lies", "mill", "at", "hour", "throw", "fetch", "any", "when", "runs", "ground", "loop", "end",
        "stop"};
    private static final String REST = " weighs 1 grips 1 minds 1;";

    public static void main(String[] args) {
        emptyText();
        longestText();
        blanks();
        noBlanks();
        bytesBesideTokens();
        numbersOfOneToFourDigits();
        numbersOfFiveDigits();
        namesOfOneToEightLetters();
        reservedWords();
        likeReservedWords();
        namesTaken();
        longs();
        loads();
        oddsOfRain();
        streams();
        weights();
        grips();
        minds();
        lies();
        mills();
        kinds();
        numbersOnly();
        toldAhead();
        toldTwice();
        longBehind();
        eightThings();
        fourMills();
        whereItEnds();
        whatCannotStand();
        leastKindOfOneToken();
        firstAlongTheText();
        takenInPlace();
        takenBehindLooksAhead();
        without();
        Checks.end();
    }

    private static void taken(String text, int things) {
        ForgetStream x = new ForgetStream();
        Checks.ok(x, "10: " + text, Checks.glen(x, text), things);
        Checks.due("12: no fault: " + text, x.fault(0), 0);
        Checks.due("12: no place: " + text, x.fault(1), -1);
    }

    private static void told(String text, int what, int due) {
        ForgetStream x = Checks.with(text);
        Checks.ok(x, "13: told(" + what + ") of " + text, x.told(what), due);
    }

    private static void fault(String text, int kind, int place) {
        ForgetStream x = new ForgetStream();
        Checks.no(x, "10: " + text, Checks.glen(x, text), 9);
        Checks.due("12: fault of " + text, x.fault(0), kind);
        Checks.due("12: place in " + text, x.fault(1), place);
    }

    /** The fault is where the text, without its last token, would go on. */
    private static void faultAtEnd(String ahead, String token, int kind) {
        fault(ahead + token, kind, ahead.length());
    }

    /** "{ } any number of times": none, too. */
    private static void emptyText() {
        taken("", 0);
        taken(" ", 0);
        taken("\n", 0);
        taken("  \n \n\n", 0);
    }

    /** "A GLEN is a TEXT of at most 900 bytes." */
    private static void longestText() {
        told(" ".repeat(892) + "load 40;", 3, 40);
        fault(" ".repeat(894) + "load 4", 2, 900);
        fault(" ".repeat(893) + "load 40", 2, 900);
        fault(" ".repeat(899) + "?", 1, 899);
        fault(" ".repeat(899) + "7", 2, 899);
        fault(" ".repeat(899) + "a", 2, 899);
        taken("\n".repeat(900), 0);
    }

    /** "between them blanks (10, 32)" */
    private static void blanks() {
        told("load 9;", 3, 9);
        told("load\n9\n;", 3, 9);
        told(" \n load \n  9 \n ; \n", 3, 9);
        told("load 9;\n\n\nodds 1;  ", 4, 1);
        int[] noBlanks = {0, 1, 8, 9, 11, 12, 13, 14, 31, 33, 127, 128, 160, 255};
        for (int sign : noBlanks) {
            fault("load" + (char) sign + "9;", 1, 4);
            fault("load 9;" + (char) sign, 1, 7);
        }
    }

    /** "TOKENS, as long as they go": between unlike ones no blank is needed. */
    private static void noBlanks() {
        told("load9;", 3, 9);
        told("load9;odds16;", 4, 16);
        taken("thing a weighs1grips1minds1lies1;mill m at0up;", 1);
        fault("loadodds 9;", 2, 0);
        fault("load 9odds", 2, 6);
        fault("load 4 0;", 2, 7);
        fault("lo ad 9;", 2, 0);
    }

    /** What is next to letters, digits and signs is none of them. */
    private static void bytesBesideTokens() {
        int[] none = {'`', '{', '/', ':', '?', '@', 'A', 'Z', '[', '_', '-', '+', '.', ',', '"', '\'', '!', '~'};
        for (int sign : none) {
            fault("" + (char) sign, 1, 0);
            fault("load " + (char) sign, 1, 5);
            fault("load 9" + (char) sign, 1, 6);
            fault("thing a" + (char) sign, 1, 7);
        }
        for (char sign : ";<>=".toCharArray()) {
            fault("" + sign, 2, 0);
        }
        for (char sign : "09".toCharArray()) {
            fault("" + sign, 2, 0);
        }
        taken("thing a" + REST + "thing z" + REST, 2);
    }

    /** "NUMBERS (1 to 4 digits)" */
    private static void numbersOfOneToFourDigits() {
        told("load 7;", 3, 7);
        told("load 40;", 3, 40);
        told("load 007;", 3, 7);
        told("load 0040;", 3, 40);
        told("odds 0000;", 4, 0);
        fault("load 9999;", 4, 5);
        fault("load 0041;", 4, 5);
        fault("load 1000;", 4, 5);
    }

    /** "a NUMBER of 5 digits and more: at its first" */
    private static void numbersOfFiveDigits() {
        fault("load 00007;", 1, 5);
        fault("load 10000;", 1, 5);
        fault("load 99999", 1, 5);
        fault("load 123456789012345678901234567890;", 1, 5);
        fault("load 4294967297;", 1, 5);
        fault("00000", 1, 0);
        fault("load 7 00000;", 1, 7);
        fault("thing 00000;", 1, 6);
    }

    /** "NAME: a WORD of 1 to 8 letters"; "a WORD of 9 letters and more where a NAME must stand" */
    private static void namesOfOneToEightLetters() {
        taken("thing a" + REST, 1);
        taken("thing zzzzzzzz" + REST, 1);
        taken("mill z at 0 up;mill zzzzzzzz at 0 up;", 0);
        taken("thing abcdefgh" + REST + "thing abcdefg" + REST + "thing abcdefgi" + REST, 3);
        fault("thing abcdefghi" + REST, 2, 6);
        fault("thing abcdefghijklmnopqrstuvwxyz" + REST, 2, 6);
        fault("mill abcdefghi at 0 up;", 2, 5);
        fault("mill aaaaaaaaaaaaaaaaaaaaaaaaa at 0 up;", 2, 5);
        fault("thing 1" + REST, 2, 6);
        fault("thing ;", 2, 6);
        fault("mill 1 at", 2, 5);
        fault("mill =", 2, 5);
    }

    /** "that is none of long, load, .." */
    private static void reservedWords() {
        for (String word : RESERVED) {
            fault("thing " + word + REST, 2, 6);
            fault("mill " + word + " at 0 up;", 2, 5);
        }
    }

    private static void likeReservedWords() {
        for (String word : RESERVED) {
            taken("thing " + word + "s" + REST, 1);
            taken("thing s" + word + REST, 1);
            taken("mill " + word.substring(1) + "q at 0 up;", 0);
        }
    }

    /** "One NAME is of one thing alone."; "3 a new NAME that is taken." */
    private static void namesTaken() {
        fault("thing a" + REST + "thing a" + REST, 3, 39);
        fault("thing a" + REST + "mill a at 0 up;", 3, 38);
        fault("mill a at 0 up;thing a" + REST, 3, 21);
        fault("mill a at 0 up;mill a at 1 down;", 3, 20);
        fault("mill b at 0 up;thing a" + REST + "thing c" + REST + "mill a at", 3, 86);
        fault("thing abcdefgh" + REST + "thing abcdefgh" + REST, 3, 46);
        taken("thing a" + REST + "thing b" + REST + "mill c at 0 up;mill aa at 0 up;", 2);
        // of the glen that was there ahead no name is taken
        ForgetStream x = Checks.with("thing a" + REST);
        Checks.ok(x, "10: a once more in another glen", Checks.glen(x, "mill a at 0 up;"), 0);
    }

    /** "LONG (2 to 16; 8 without)" */
    private static void longs() {
        told("long 2;", 2, 2);
        told("long 16;", 2, 16);
        told("", 2, 8);
        faultAtEnd("long ", "0;", 4);
        faultAtEnd("long ", "1;", 4);
        faultAtEnd("long ", "17;", 4);
        ForgetStream x = Checks.with("long 2;");
        Checks.ok(x, "17: the sea is the last cell", x.goal(), 1);
        x = Checks.with("long 16;");
        Checks.ok(x, "17: the sea is the last cell", x.goal(), 15);
    }

    /** "LOAD (1 to 40; 10 without)" */
    private static void loads() {
        told("load 1;", 3, 1);
        told("load 40;", 3, 40);
        told("", 3, 10);
        faultAtEnd("load ", "0;", 4);
        faultAtEnd("load ", "41;", 4);
    }

    /** "ODDS (0 to 16; 4 without)" */
    private static void oddsOfRain() {
        told("odds 0;", 4, 0);
        told("odds 16;", 4, 16);
        told("", 4, 4);
        faultAtEnd("odds ", "17;", 4);
    }

    /** "STREAM: in which CELL it is (0 without), and that it runs up (down without)" */
    private static void streams() {
        told("", 6, 0);
        told("", 7, 1);
        told("stream 0;", 6, 0);
        told("stream 7;", 6, 7);
        told("stream 7;", 7, 1);
        told("stream 7 up;", 7, 0);
        told("long 2;stream 1 up;", 6, 1);
        told("long 16;stream 15;", 6, 15);
        faultAtEnd("stream ", "8;", 4);
        faultAtEnd("long 2;stream ", "2;", 4);
        faultAtEnd("long 16;stream ", "16;", 4);
        faultAtEnd("stream 1 ", "down;", 2);
        faultAtEnd("stream 1 ", "both;", 2);
        faultAtEnd("stream 1 up ", "up;", 2);
        faultAtEnd("stream ", "up;", 2);
    }

    private static void thing(String text, int what, int due) {
        ForgetStream x = Checks.with(text);
        Checks.ok(x, "14: thing(0, " + what + ") of " + text, x.thing(0, what), due);
    }

    /** "WEIGHT (0 to 9)" */
    private static void weights() {
        thing("thing a weighs 0 grips 1 minds 1;", 0, 0);
        thing("thing a weighs 9 grips 1 minds 1;", 0, 9);
        faultAtEnd("thing a weighs ", "10 grips 1 minds 1;", 4);
    }

    /** "GRIP (1 to 24)" */
    private static void grips() {
        thing("thing a weighs 0 grips 1 minds 2;", 1, 1);
        thing("thing a weighs 9 grips 24 minds 1;", 1, 24);
        faultAtEnd("thing a weighs 1 grips ", "0 minds 1;", 4);
        faultAtEnd("thing a weighs 1 grips ", "25 minds 1;", 4);
    }

    /** "MIND (1 to 24)" */
    private static void minds() {
        thing("thing a weighs 0 grips 2 minds 1;", 2, 1);
        thing("thing a weighs 9 grips 1 minds 24;", 2, 24);
        faultAtEnd("thing a weighs 1 grips 1 minds ", "0;", 4);
        faultAtEnd("thing a weighs 1 grips 1 minds ", "25;", 4);
    }

    /** "LIE in a CELL, or are ASHORE" */
    private static void lies() {
        thing("thing a weighs 1 grips 1 minds 1;", 3, 0);
        thing("thing a weighs 1 grips 1 minds 1 lies 0;", 3, 1);
        thing("thing a weighs 1 grips 1 minds 1 lies 7;", 3, 1);
        faultAtEnd("thing a weighs 1 grips 1 minds 1 lies ", "8;", 4);
        faultAtEnd("long 2;thing a weighs 1 grips 1 minds 1 lies ", "2;", 4);
        faultAtEnd("long 16;thing a weighs 1 grips 1 minds 1 lies ", "16;", 4);
        ForgetStream x = Checks.with("long 16;thing a weighs 1 grips 1 minds 1 lies 15;");
        Checks.ok(x, "15: the sea", x.cellOf(0), 15);
        Checks.ok(x, "14: for 0 hours", x.thing(0, 4), 0);
        x = Checks.with("long 2;thing a weighs 1 grips 1 minds 1 lies 0;");
        Checks.ok(x, "15: cell 0", x.cellOf(0), 0);
        x = Checks.with("thing a weighs 1 grips 1 minds 1;");
        Checks.no(x, "15: nowhere", x.cellOf(0), 6);
    }

    /** "MILLS .. AT a CELL" */
    private static void mills() {
        ForgetStream x = Checks.with("mill a at 0 up;mill b at 7 up;");
        Checks.ok(x, "16: cell 0", x.mill(0, 0), 0);
        Checks.ok(x, "16: the sea", x.mill(1, 0), 7);
        faultAtEnd("mill a at ", "8 up;", 4);
        faultAtEnd("long 2;mill a at ", "2 up;", 4);
        faultAtEnd("long 16;mill a at ", "16 up;", 4);
        taken("long 16;mill a at 15 up;", 0);
    }

    /** "KIND: down or up or both" */
    private static void kinds() {
        ForgetStream x = Checks.with("mill a at 0 up;mill b at 0 down;mill c at 0 both;");
        Checks.ok(x, "16: up", x.mill(0, 1), 0);
        Checks.ok(x, "16: down", x.mill(1, 1), 1);
        Checks.ok(x, "16: both", x.mill(2, 1), 2);
        for (String word : RESERVED) {
            if (!word.equals("up") && !word.equals("down") && !word.equals("both")) {
                faultAtEnd("mill a at 0 ", word + ";", 2);
            }
        }
        faultAtEnd("mill a at 0 ", "ups;", 2);
        faultAtEnd("mill a at 0 ", ";", 2);
        faultAtEnd("mill a at 0 ", "0;", 2);
        faultAtEnd("mill a at 0 up ", "down;", 2);
    }

    /** Where a NUMBER must stand nothing else can. */
    private static void numbersOnly() {
        String[] ahead = {"long ", "load ", "odds ", "stream ", "thing a weighs ", "thing a weighs 1 grips ",
            "thing a weighs 1 grips 1 minds ", "thing a weighs 1 grips 1 minds 1 lies ", "mill a at "};
        for (String text : ahead) {
            faultAtEnd(text, "a;", 2);
            faultAtEnd(text, "up;", 2);
            faultAtEnd(text, ";", 2);
            faultAtEnd(text, "=1;", 2);
            faultAtEnd(text, "", 2);
            faultAtEnd(text, "12345;", 1);
            faultAtEnd(text, "-1;", 1);
        }
    }

    /** "All are numbered as they stand; what a PART names must be told ahead." */
    private static void toldAhead() {
        ForgetStream x = Checks.with("mill m at 1 up;thing b weighs 2 grips 1 minds 1;mill n at 2 up;"
                + "thing a weighs 3 grips 1 minds 1;");
        Checks.ok(x, "14: the first", x.thing(0, 0), 2);
        Checks.ok(x, "14: the second", x.thing(1, 0), 3);
        Checks.ok(x, "16: the first", x.mill(0, 0), 1);
        Checks.ok(x, "16: the second", x.mill(1, 0), 2);
        // there are 8 cells as long as no other length was told
        fault("stream 8;long 16;", 4, 7);
        fault("stream 7;long 16;", 5, 9);
        taken("long 9;stream 8;", 0);
    }

    /** "5 long, load, odds, stream told already .. (at that WORD)" */
    private static void toldTwice() {
        faultAtEnd("long 8;", "long 8;", 5);
        faultAtEnd("load 8;", "load 8;", 5);
        faultAtEnd("odds 8;", "odds 8;", 5);
        faultAtEnd("stream 0;", "stream 0;", 5);
        faultAtEnd("stream 0 up;", "stream 1;", 5);
        faultAtEnd("load 8;odds 8;long 8;", "load;", 5);
        faultAtEnd("load 8;thing a" + REST, "load 99;", 5);
        taken("odds 1;load 1;long 8;stream 1;", 0);
        taken("stream 1;load 1;mill m at 0 up;odds 1;", 0);
        taken("thing a" + REST + "stream 1;mill m at 0 up;load 1;thing b" + REST + "odds 1;", 2);
    }

    /** "long behind a stream, thing, mill (at that WORD)" */
    private static void longBehind() {
        faultAtEnd("stream 0;", "long 8;", 5);
        faultAtEnd("thing a" + REST, "long 8;", 5);
        faultAtEnd("mill m at 0 up;", "long 8;", 5);
        faultAtEnd("long 8;mill m at 0 up;", "long 8;", 5);
        taken("load 1;odds 1;long 2;", 0);
    }

    /** "THINGS, at most 8"; "6 a ninth thing (at that WORD)" */
    private static void eightThings() {
        StringBuilder s = new StringBuilder();
        for (char name = 'a'; name <= 'h'; name++) {
            taken(s.toString(), name - 'a');
            s.append("thing ").append(name).append(REST);
        }
        taken(s.toString(), 8);
        taken(s + "mill i at 0 up;", 8);
        faultAtEnd(s.toString(), "thing i" + REST, 6);
        faultAtEnd(s.toString(), "thing a" + REST, 6);
        faultAtEnd(s.toString(), "thing", 6);
        faultAtEnd(s.toString(), "things", 2);
    }

    /** "MILLS, at most 4"; "6 .. a fifth mill (at that WORD)" */
    private static void fourMills() {
        StringBuilder s = new StringBuilder();
        for (char name = 'a'; name <= 'd'; name++) {
            told(s.toString(), 1, name - 'a');
            s.append("mill ").append(name).append(" at 0 up;");
        }
        told(s.toString(), 1, 4);
        taken(s + "thing e" + REST, 1);
        faultAtEnd(s.toString(), "mill e at 0 up;", 6);
        faultAtEnd(s.toString(), "mill a at 0 up;", 6);
        faultAtEnd(s.toString(), "mill", 6);
    }

    /** "2 it can't stand there (the end: the text's length ..)": a text broken off behind any of its tokens. */
    private static void whereItEnds() {
        String[] parts = {"long 9 ;", "load 9 ;", "odds 9 ;", "stream 0 up ;",
            "thing a weighs 1 grips 1 minds 1 lies 1 ;", "mill a at 0 both ;"};
        for (String part : parts) {
            taken(part, part.startsWith("thing") ? 1 : 0);
            String[] tokens = part.split(" ");
            StringBuilder s = new StringBuilder();
            for (int i = 0; i < tokens.length - 1; i++) {
                s.append(tokens[i]);
                fault(s.toString(), 2, s.length());
                fault(s + "  ", 2, s.length() + 2);
                s.append(' ');
                fault(s + "\n", 2, s.length() + 1);
            }
        }
    }

    /** "2 it can't stand there": each token of each part in another's place. */
    private static void whatCannotStand() {
        String[] starts = {"long", "load", "odds", "stream", "thing", "mill"};
        for (String word : RESERVED) {
            boolean starting = false;
            for (String start : starts) {
                starting |= word.equals(start);
            }
            if (!starting) {
                fault(word + " 1;", 2, 0);
            }
        }
        faultAtEnd("load 1", "=", 2);
        faultAtEnd("load 1", "<", 2);
        faultAtEnd("load 1", ">", 2);
        faultAtEnd("load 1 ", "59", 2);
        faultAtEnd("load 1;", ";", 2);
        faultAtEnd("thing a ", "grips 1", 2);
        faultAtEnd("thing a weighs 1 ", "minds 1", 2);
        faultAtEnd("thing a weighs 1 grips 1 ", "lies 1", 2);
        faultAtEnd("thing a weighs 1 grips 1 ", ";", 2);
        faultAtEnd("thing a weighs 1 grips 1 minds 1 ", "at 1", 2);
        faultAtEnd("thing a weighs 1 grips 1 minds 1 lies 1 ", "lies 1", 2);
        faultAtEnd("mill a ", "lies 0", 2);
        // a number where the word ahead of it is missing
        faultAtEnd("thing a ", "1 grips 1 minds 1;", 2);
        faultAtEnd("thing a weighs 1 ", "1 minds 1;", 2);
        faultAtEnd("thing a weighs 1 grips 1 ", "1;", 2);
        faultAtEnd("thing a weighs 1 grips 1 minds 1 ", "1;", 2);
        faultAtEnd("mill a ", "0 up;", 2);
        faultAtEnd("mill ", "at 0 up;", 2);
        faultAtEnd("thing ", "weighs 1 grips 1 minds 1;", 2);
        faultAtEnd("mill a at 0", ";", 2);
    }

    /** "of one TOKEN the least kind" */
    private static void leastKindOfOneToken() {
        // too many digits, where no number can stand, and a number that can't be
        fault("load 99999", 1, 5);
        fault("load 8;12345", 1, 7);
        // a ninth thing's name that is taken: the fault is at thing, ahead of it
        fault("mill a at 0 up;mill b at 0 up;mill c at 0 up;mill d at 0 up;mill a", 6, 60);
        // told already, and behind a thing: one fault at one word
        fault("long 8;thing a" + REST + "long 99", 5, 40);
    }

    /** "the first along the text" */
    private static void firstAlongTheText() {
        fault("load 99;?", 4, 5);
        fault("load 9;long 99;load 9;12345", 4, 12);
        fault("load 9;load 99;", 5, 7);
        fault("thing up weighs 99", 2, 6);
        fault("thing a weighs 10 grips 25 minds 25 lies 8;", 4, 15);
        fault("thing a weighs 1 grips 25 minds 25 lies 8;", 4, 23);
        fault("thing a weighs 1 grips 1 minds 25 lies 8;", 4, 31);
        fault("thing a weighs 1 grips 1 minds 1 lies 8", 4, 38);
        fault("mill a at 8 zz", 4, 10);
        fault("load 9 odds 99;", 2, 7);
    }

    /**
     * "A GLEN that is taken is there in place of that ahead; it is HOUR 0, THINGS lie for 0 HOURS, no MILL has GROUND,
     * there was no TURN; there are no DAYS."
     */
    private static void takenInPlace() {
        ForgetStream x = House.full();
        // what lies on the tape goes first
        x.days(7);
        Checks.ok(x, "10: in its place", Checks.glen(x, "long 3;thing c weighs 1 grips 2 minds 3 lies 2;mill u at 2 up;"), 1);
        int[] told = {1, 1, 3, 10, 4, 0, 0, 1, 0, 0, 1, 0, 0, 0, 0};
        for (int what = 0; what < told.length; what++) {
            Checks.ok(x, "10: told(" + what + ")", x.told(what), told[what]);
        }
        int[] thing = {1, 2, 3, 1, 0, 0};
        for (int what = 0; what < thing.length; what++) {
            Checks.ok(x, "10: thing(0, " + what + ")", x.thing(0, what), thing[what]);
        }
        Checks.ok(x, "10: nothing was ground", x.mill(0, 2), 0);
        Checks.no(x, "10: the things ahead are gone", x.thing(1, 0), 1);
        Checks.no(x, "10: the mills ahead are gone", x.mill(1, 0), 1);
        Checks.no(x, "10: there are no days", x.live(0), 6);
        Checks.no(x, "10: nor for a mean", x.mean(0, 1), 6);
        Checks.ok(x, "53: what was lived is told still", x.lived(0), 1);
        Checks.ok(x, "5: trays stay", x.read(House.FEW, 0), 5);
        Checks.ok(x, "55: marks stay", x.mark(), 3);
        // made things and mills of a glen ahead do not come back
        x.make(9, 9, 9);
        x.build(0, 0);
        Checks.ok(x, "10: none", x.glen(0), 0);
        Checks.ok(x, "13: no things", x.told(0), 0);
        Checks.ok(x, "13: no mills", x.told(1), 0);
        Checks.ok(x, "24: the first is 0", x.make(1, 1, 1), 0);
        Checks.ok(x, "14: it was never home", x.thing(0, 5), 0);
    }

    /** Nothing of what was looked at ahead of it comes into it, nor into what is made and built then. */
    private static void takenBehindLooksAhead() {
        String text = "long 5;thing c weighs 1 grips 2 minds 3 lies 2;mill u at 2 up;";
        ForgetStream fresh = Checks.with(text);
        ForgetStream x = House.full();
        x.days(7);
        x.hour(9);
        x.atIn(400);
        x.game(0, 1, 2);
        x.soonest(House.ASHORE);
        Checks.ok(x, "10: taken", Checks.glen(x, text), 1);
        for (int i = 0; i < 2; i++) {
            for (int what = 0; what < 15; what++) {
                Checks.ok(x, "13: told(" + what + ")", x.told(what), fresh.told(what));
            }
            for (int what = 0; what < 6; what++) {
                Checks.ok(x, "14: thing(" + i + ", " + what + ")", x.thing(i, what), fresh.thing(i, what));
            }
            for (int what = 0; what < 3; what++) {
                Checks.ok(x, "16: mill(" + i + ", " + what + ")", x.mill(i, what), fresh.mill(i, what));
            }
            x.make(7, 8, 9);
            x.build(1, 2);
            fresh.make(7, 8, 9);
            fresh.build(1, 2);
        }
        Checks.ok(x, "27: ahead, too", x.atIn(20), fresh.atIn(20));
    }

    /** "8 without", "10 without", "4 without", "0 without", "down without": not as it was ahead. */
    private static void without() {
        ForgetStream x = Checks.with("long 16;load 40;odds 16;stream 9 up;");
        x.hour(3);
        x.rule(3, 1);
        Checks.ok(x, "10: without any part", x.glen(0), 0);
        int[] due = {8, 10, 4, 0, 0, 1, 0};
        for (int i = 0; i < due.length; i++) {
            Checks.ok(x, "13: told(" + (i + 2) + ")", x.told(i + 2), due[i]);
        }
    }
}
