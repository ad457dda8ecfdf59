import java.io.IOException;
import java.io.UncheckedIOException;
import java.nio.file.Files;
import java.nio.file.Path;
import java.util.List;

/** What the tests share: answers that are due, and short ways to type, compile, begin and finish. */
abstract class Check {
    static final int NO_RUN = 0;
    static final int RUNNING = 1;
    static final int DONE = 2;
    static final int TIRED = 3;
    static final int FULL = 4;
    static final int SHORT = 5;
    static final int UNPAIRED = 6;
    static final int UNCOUNTED = 7;
    static final int ZERO = 8;
    static final int UNCALLABLE = 9;

    static final int MOST_FUEL = 8000;
    static final String SAME = "(lambda (x) x)";

    private static final List<String> ROW = List.of("LD", "LDC", "LDF", "AP", "RTN", "DUM", "RAP", "SEL",
            "JOIN", "CAR", "CDR", "ATOM", "CONS", "EQ", "LEQ", "ADD", "SUB", "MUL", "DIV", "REM", "STOP");
    private static final Path DOCUMENT = Path.of("../shared/DOC.md");

    private static String document = null;
    private static String sentence = "";
    private static int sentences = 0;
    private static int checks = 0;
    private static int wrong = 0;

    /** What is checked from here on, the document says in these words; they must stand there. */
    static void says(String words) {
        sentence = words;
        sentences++;
        if (Files.isReadable(DOCUMENT) && !document().contains(words)) {
            fail("this does not stand in the document");
        }
    }

    /** The document's lines are broken anywhere, so that any blanks in it count as one. */
    private static String document() {
        if (document == null) {
            try {
                document = Files.readString(DOCUMENT).replaceAll("\\s+", " ");
            } catch (IOException failure) {
                throw new UncheckedIOException(failure);
            }
        }
        return document;
    }

    static void end() {
        String of = sentences == 0 ? "" : " to " + sentences + " sentences";
        System.out.println(checks + " answers" + of + ", " + wrong + " of them wrong");
        if (wrong != 0) {
            System.exit(1);
        }
    }

    private static void fail(String what) {
        wrong++;
        System.out.println(what + (sentence.isEmpty() ? "" : "\n    by: " + sentence));
    }

    static void due(String what, int got, int want) {
        checks++;
        if (got != want) {
            fail(what + ": answered " + got + ", due is " + want);
        }
    }

    static void due(String what, boolean got, boolean want) {
        due(what, got ? 1 : 0, want ? 1 : 0);
    }

    static void due(String what, String got, String want) {
        checks++;
        if (!got.equals(want)) {
            fail(what + ": answered [" + got + "], due is [" + want + "]");
        }
    }

    static void type(CountedProcessor x, String text) {
        for (int k = 0; k < text.length(); k++) {
            due("put " + text.charAt(k), x.put(text.charAt(k)), true);
        }
    }

    static int compiled(CountedProcessor x, String text) {
        x.erase();
        type(x, text);
        return x.compile();
    }

    static int compiled(String text) {
        return compiled(new CountedProcessor(24), text);
    }

    static int begun(CountedProcessor x, String argument, int fuel) {
        x.erase();
        type(x, argument);
        return x.begin(fuel);
    }

    /** A processor with a run of the program that has just begun. */
    static CountedProcessor started(int cells, String program, String argument, int fuel) {
        CountedProcessor x = new CountedProcessor(cells);
        due(program + " compiles", compiled(x, program) > 0, true);
        due(program + " begins with " + argument, begun(x, argument, fuel) > 0, true);
        return x;
    }

    /** A processor of 200 cells with the program run on the argument up to its end. */
    static CountedProcessor finished(String program, String argument) {
        CountedProcessor x = started(200, program, argument, MOST_FUEL);
        for (int k = 0; k < 9 && x.status() == RUNNING; k++) {
            x.run(1000);
        }
        return x;
    }

    static String result(CountedProcessor x) {
        int length = x.printed();
        StringBuilder text = new StringBuilder();
        for (int k = 0; k < length; k++) {
            text.append((char) x.character(k));
        }
        return text.toString();
    }

    static void prints(String program, String argument, String want) {
        due(program + " of " + argument, result(finished(program, argument)), want);
    }

    /** What a function of x, told by its body, prints. */
    static void gives(String body, String argument, String want) {
        prints("(lambda (x) " + body + ")", argument, want);
    }

    static void ends(String program, String argument, int want) {
        due(program + " of " + argument + " ends", finished(program, argument).status(), want);
    }

    /** A number in a list takes two cells, a nil one. */
    static String argumentOf(int cells) {
        return "(" + "1 ".repeat(cells / 2) + (cells % 2 == 0 ? ")" : "nil)");
    }

    static int word(String instruction) {
        String[] words = instruction.trim().split(" ");
        int word = ROW.indexOf(words[0]);
        if (words.length > 1) {
            word += 32 * Integer.parseInt(words[1]);
        }
        return words.length > 2 ? word + 16384 * Integer.parseInt(words[2]) : word;
    }

    static int opOf(int word) {
        return word % 32;
    }

    /** The code without AP and STOP at its end. */
    static void codeIs(String program, String code) {
        CountedProcessor x = new CountedProcessor(24);
        String[] want = (code + ", AP, STOP").split(",");
        due("size of " + program, compiled(x, program), want.length);
        for (int k = 0; k < want.length; k++) {
            due("code(" + k + ") of " + program, x.code(k), word(want[k]));
        }
        due("code behind " + program, x.code(want.length), -1);
        due("code before " + program, x.code(-1), -1);
    }
}
