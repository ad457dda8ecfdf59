import java.util.function.ToIntFunction;

/** The edges that the promises themselves name, one method each, and the calls that are refused. */
public final class PromiseEdgesTest extends Check {
    private static final int LEAST = Integer.MIN_VALUE;
    private static final int GREATEST = Integer.MAX_VALUE;

    public static void main(String[] args) {
        calls512();
        newObject();
        numberOfCells();
        putRefused();
        putLeavesProgramAndRun();
        erase();
        eraseLeavesProgramAndRun();
        compileAnswersItsSize();
        compileTakesTextAndRun();
        compileRefused();
        codeOfEachInstruction();
        codeOutside();
        codeOfTheProgramTakenLast();
        beginInPlaceOfARun();
        beginAnswersUsed();
        beginWithoutProgram();
        beginWithFuel();
        beginUnread();
        beginWithTooFewCells();
        orderOfRefusals();
        runOfSomeSteps();
        runCountsInstructions();
        runOfARunThatIsOver();
        runRefused();
        statusOfNoRun();
        statusOfEachEnd();
        answersWithoutRun();
        cycles();
        collections();
        addressOfEachEnd();
        depthOfRegisters();
        depthOfD();
        liveOfAnEndedRun();
        printedWhenDone();
        characters();
        end();
    }

    private static String state(CountedProcessor x) {
        return x.status() + " " + x.cycles() + " " + x.address() + " " + x.depth(0) + " " + x.depth(1) + " "
                + x.depth(2) + " " + x.live() + " " + x.used() + " " + x.collections() + " " + result(x) + " "
                + x.code(0) + " " + x.code(1) + " " + x.code(2) + " " + x.code(3) + " " + x.code(4) + " " + x.code(5);
    }

    private static void calls512() {
        says("An object is used for at most 512 calls after it has been made");
        CountedProcessor x = new CountedProcessor(24);
        compiled(x, "(lambda (x) (add (add x 1) (add x 1)))");
        while (x.calls() + 5 <= CountedProcessor.MOST_CALLS) {
            due("put", x.put('5'), true);
            due("begin", x.begin(MOST_FUEL), 8);
            due("run", x.run(1000), 11);
            due("printed", x.printed(), 2);
        }
        while (x.calls() < CountedProcessor.MOST_CALLS) {
            due("up to the last call", x.cycles(), 31 + 24 + 13 + 4 + 1);
        }
    }

    private static void newObject() {
        says("No text, no program, no run");
        CountedProcessor x = new CountedProcessor(100);
        due("no run", state(x), "0 -1 -1 -1 -1 -1 -1 -1 -1  -1 -1 -1 -1 -1 -1");
        due("no text", x.compile(), -1);
        due("no program", x.begin(100), -1);
        due("no run to run", x.run(1), -1);
        due("printed", x.printed(), -1);
        due("character", x.character(0), -1);
        x.erase();
        due("still no text", x.compile(), -1);
    }

    private static void numberOfCells() {
        says("the number of cells is cells, but 24 if that is less and 200 if it is more");
        int[][] rows = {{LEAST, 24}, {-1, 24}, {0, 24}, {1, 24}, {22, 24}, {23, 24}, {24, 24}, {25, 25}, {26, 26},
            {100, 100}, {198, 198}, {199, 199}, {200, 200}, {201, 200}, {202, 200}, {1000, 200}, {GREATEST, 200}};
        for (int[] row : rows) {
            CountedProcessor x = new CountedProcessor(row[0]);
            compiled(x, SAME);
            due("an argument for all of " + row[0], begun(x, argumentOf(row[1] - 5), MOST_FUEL), row[1]);
            // LDF finds no cell: a collection, which costs the cells and the live ones.
            x.run(1);
            due("a collection of " + row[0], x.cycles(), 2 * row[1]);
            due("one too many for " + row[0], begun(x, argumentOf(row[1] - 4), MOST_FUEL), -3);
        }
    }

    private static void putRefused() {
        says("Appends a character to the text; false if it is none of those, or 200 are there.");
        CountedProcessor x = new CountedProcessor(24);
        compiled(x, SAME);
        due("none of those", x.put('A'), false);
        type(x, "1");
        due("none of those, between", x.put('.'), false);
        due("none of those, between", x.put(0), false);
        type(x, "2" + " ".repeat(198));
        due("200 are there", x.put(' '), false);
        due("200 are there, and it is none of those", x.put('A'), false);
        due("the text stays", x.begin(MOST_FUEL), 6);
        x.run(1000);
        due("it is 12", result(x), "12");
        due("there is room again behind begin", x.put('1'), true);
    }

    private static void putLeavesProgramAndRun() {
        says("Makes the text empty (program and run stay, as with put).");
        CountedProcessor x = started(24, "(quote (1 2))", "(3 4)", MOST_FUEL);
        x.run(1);
        String before = state(x);
        type(x, "(a");
        due("behind put", state(x), before);
        x.erase();
        due("behind erase", state(x), before);
        type(x, "5");
        due("the run goes on", x.run(1), 1);
        due("it was not begun anew", x.status(), UNCALLABLE);
    }

    private static void erase() {
        says("Makes the text empty");
        CountedProcessor x = new CountedProcessor(24);
        x.erase();
        due("of no text", x.compile(), -1);
        type(x, "(" + "1".repeat(150));
        x.erase();
        due("nothing is left", x.compile(), -1);
        type(x, "7");
        due("only what came behind", x.compile(), 3);
        type(x, " ".repeat(200));
        due("no room", x.put('1'), false);
        x.erase();
        due("room again", x.put('1'), true);
    }

    private static void eraseLeavesProgramAndRun() {
        says("(program and run stay, as with put)");
        CountedProcessor x = finished(SAME, "(1 2)");
        String before = state(x);
        x.erase();
        due("of a run that is done", state(x), before);
        due("the program can be begun", begun(x, "3", 5), 6);
    }

    private static void compileAnswersItsSize() {
        says("Takes the text as the program: how many instructions its code has.");
        due("the least", compiled("1"), 3);
        due("a function", compiled("(lambda (x) (add x 1))"), 7);
        due("with blanks", compiled("  ( lambda ( ) 1 )  "), 5);
    }

    private static void compileTakesTextAndRun() {
        says("Then the text is empty and there is no run any more.");
        CountedProcessor x = new CountedProcessor(24);
        compiled(x, "5");
        due("the text is empty", x.compile(), -1);
        due("for begin too", x.begin(10), -2);
        begun(x, "1", 10);
        due("a run", x.status(), RUNNING);
        compiled(x, "5");
        due("no running run", x.status(), NO_RUN);
        due("nothing to run", x.run(1), -1);
        begun(x, "1", 10);
        x.run(1000);
        due("an ended run", x.status(), UNCALLABLE);
        compiled(x, SAME);
        due("no ended run", x.status(), NO_RUN);
        begun(x, "1", MOST_FUEL);
        x.run(1000);
        due("a result", x.printed(), 1);
        compiled(x, SAME);
        due("no result", x.printed(), -1);
        due("no character of it", x.character(0), -1);
    }

    private static void compileRefused() {
        says("Refused with -1 if the text cannot be read; else with -2 FORM or -3 UNBOUND, "
                + "whichever is the first error in the order of putting out.");
        refusesAndGoesOn("(1", -1, ")", "(1)");
        refusesAndGoesOn("", -1, "8", "8");
        refusesAndGoesOn("(if)", -2, "", "(if)");
        refusesAndGoesOn("()", -2, "", "nil");
        refusesAndGoesOn("z", -3, "", "z");
        refusesAndGoesOn("(add 1 (add 2 y))", -3, "", "(add 1 (add 2 y))");
        // Not -2 and not -3, if it cannot be read.
        due("FORM and unread", compiled("(() x"), -1);
        due("UNBOUND and unread", compiled("x y"), -1);
        due("UNBOUND ahead of FORM", compiled("(sub x ())"), -3);
        due("FORM ahead of UNBOUND", compiled("(sub () x)"), -2);
    }

    /** The text is refused as a program; text, program and run stay, so it can be the argument then. */
    private static void refusesAndGoesOn(String text, int why, String more, String printed) {
        says("A call that is refused changes nothing (the text stays, too).");
        CountedProcessor x = started(60, "(lambda (x) (car (cons x 5)))", "3", MOST_FUEL);
        x.run(4);
        String before = state(x);
        due("[" + text + "] is refused", compiled(x, text), why);
        due("program and run stay behind [" + text + "]", state(x), before);
        due("it is refused again", x.compile(), why);
        due("the run goes on", x.run(1000), 4);
        due("to its end", result(x), "3");
        type(x, more);
        due("the text is there behind [" + text + "]", x.begin(MOST_FUEL) > 0, true);
        x.run(1000);
        due("as an argument, [" + text + "]", result(x), printed);
    }

    private static void wordsAre(String program, int... words) {
        CountedProcessor x = new CountedProcessor(24);
        due("size of " + program, compiled(x, program), words.length + 2);
        for (int k = 0; k < words.length; k++) {
            due("code(" + k + ") of " + program, x.code(k), words[k]);
        }
        due("AP of " + program, x.code(words.length), 3);
        due("STOP of " + program, x.code(words.length + 1), 20);
    }

    private static void codeOfEachInstruction() {
        says("its number in the row LD LDC LDF AP RTN DUM RAP SEL JOIN CAR CDR ATOM CONS EQ LEQ ADD SUB MUL DIV REM "
                + "STOP (from 0) + 32 * (i, k or p, 0 if it has none) + 16384 * (j or q, 0 if it has none)");
        wordsAre(SAME, 2 + 32 * 3, 0, 4);
        wordsAre("(lambda (a b c) (lambda () c))", 2 + 32 * 5, 2 + 32 * 4, 32 + 16384 * 2, 4, 4);
        wordsAre("(1)", 1, 1 + 32, 3);
        wordsAre("(letrec 1)", 5, 1, 2 + 32 * 5, 1 + 32, 4, 6);
        wordsAre("(if 1 2 3)", 1 + 32, 7 + 32 * 4 + 16384 * 6, 1 + 32 * 2, 8, 1 + 32 * 3, 8);
        wordsAre("(car 1)", 33, 9);
        wordsAre("(cdr 1)", 33, 10);
        wordsAre("(atom 1)", 33, 11);
        String[] two = {"cons", "eq", "leq", "add", "sub", "mul", "div", "rem"};
        for (int k = 0; k < two.length; k++) {
            wordsAre("(" + two[k] + " 1 2)", 33, 65, 12 + k);
        }
    }

    private static void codeOutside() {
        says("-1 if there is none");
        CountedProcessor x = new CountedProcessor(24);
        for (int address : new int[] {LEAST, -1, 0, 1, GREATEST}) {
            due("no program, " + address, x.code(address), -1);
        }
        compiled(x, "1");
        for (int address : new int[] {LEAST, -GREATEST, -2, -1, 3, 4, 511, 512, 513, 65536, GREATEST}) {
            due("outside, " + address, x.code(address), -1);
        }
        due("the first", x.code(0), word("LDC 1"));
        due("the last", x.code(2), word("STOP"));
    }

    private static void codeOfTheProgramTakenLast() {
        says("(of the program that was taken last; a refused one is none)");
        CountedProcessor x = new CountedProcessor(24);
        due("a refused one is none", compiled(x, "(add 1 y)"), -3);
        due("so there is none", x.code(0), -1);
        compiled(x, "(car 1)");
        due("taken", x.code(1), word("CAR"));
        compiled(x, "(cdr");
        due("-1", x.code(1), word("CAR"));
        compiled(x, "(cdr (cdr))");
        due("-2", x.code(1), word("CAR"));
        compiled(x, "(add (cdr 1) y)");
        due("-3", x.code(1), word("CAR"));
        due("its end", x.code(3) * 100 + x.code(4), word("STOP") * 100 - 1);
        compiled(x, "7");
        due("a shorter one", x.code(1), word("AP"));
        due("its end", x.code(3), -1);
        begun(x, "1", 10);
        x.run(1000);
        due("a run leaves it", x.code(0), word("LDC 1"));
    }

    private static void beginInPlaceOfARun() {
        says("Begins a run of the program with the text as the argument, in place of a run that there is; "
                + "the text is empty then.");
        CountedProcessor x = new CountedProcessor(24);
        compiled(x, SAME);
        begun(x, "1", MOST_FUEL);
        due("the text is empty", x.begin(MOST_FUEL), -2);
        x.run(3);
        due("in place of a running one", begun(x, "2", MOST_FUEL), 6);
        due("it begins", x.address() * 1000 + x.cycles() * 10 + x.status(), RUNNING);
        x.run(1000);
        due("with the new argument", result(x), "2");
        due("in place of one that is done", begun(x, "3", 1), 6);
        x.run(1000);
        due("with the new fuel", x.status(), TIRED);
        due("in place of a tired one", begun(x, argumentOf(19), MOST_FUEL), 24);
        x.run(1000);
        due("full", x.status() * 10 + x.collections(), FULL * 10 + 1);
        due("in place of a full one", begun(x, "4", MOST_FUEL), 6);
        due("without its collections", x.collections(), 0);
        x.run(1000);
        due("to its end", result(x), "4");
    }

    private static void beginAnswersUsed() {
        says("Answers how many cells are used.");
        CountedProcessor x = new CountedProcessor(24);
        compiled(x, "(quote nil)");
        due("the least", begun(x, "nil", 10), 5);
        due("used", x.used(), 5);
        due("all", begun(x, argumentOf(19), 10), 24);
        due("used", x.used(), 24);
        CountedProcessor y = new CountedProcessor(24);
        compiled(y, "(add 1 (add 2 (quote (3 4))))");
        due("with the constants", begun(y, "nil", 10), 5 + 6);
        compiled(y, "(add 5 6)");
        due("of the program that was taken last alone", begun(y, "nil", 10), 5 + 2);
        compiled(y, "(add 1 (add 2 (add 3 z)))");
        due("not of a refused one", begun(y, "nil", 10), 5 + 2);
    }

    private static void beginWithoutProgram() {
        says("Refused with -1 if there is no program or fuel is not 1 .. 8000");
        CountedProcessor x = new CountedProcessor(24);
        type(x, "1");
        due("no program", x.begin(1), -1);
        due("the text stays", x.compile(), 3);
        CountedProcessor y = new CountedProcessor(24);
        compiled(y, "(if)");
        due("a refused one is none", y.begin(1), -1);
    }

    private static void beginWithFuel() {
        says("fuel is not 1 .. 8000");
        CountedProcessor x = started(24, SAME, "3", MOST_FUEL);
        x.run(2);
        String before = state(x);
        type(x, "(4)");
        for (int fuel : new int[] {LEAST, -8000, -1, 0, 8001, 8002, 65537, GREATEST}) {
            due("fuel " + fuel, x.begin(fuel), -1);
        }
        due("nothing is changed", state(x), before);
        due("fuel 8000, and the text stayed", x.begin(8000), 7);
        due("fuel 1", begun(x, "5", 1), 6);
        due("one instruction", x.run(1000), 1);
        due("tired", x.status(), TIRED);
    }

    private static void beginUnread() {
        says("else with -2 if the text cannot be read");
        CountedProcessor x = started(24, SAME, "3", MOST_FUEL);
        x.run(2);
        String before = state(x);
        for (String text : new String[] {"", " ", "(1", "1)", "1 2", "-", "abcdefg", "1234567890", "(".repeat(13)}) {
            due("[" + text + "]", begun(x, text, 10), -2);
        }
        due("(5 6", begun(x, "(5 6", MOST_FUEL), -2);
        due("nothing is changed", state(x), before);
        type(x, ")");
        due("the text stays", x.begin(MOST_FUEL), 9);
        x.run(1000);
        due("all of it", result(x), "(5 6)");
        // What is no expression can be an argument.
        due("()", begun(x, "()", 10), 5);
        due("(if)", begun(x, "(if)", 10), 7);
    }

    private static void beginWithTooFewCells() {
        says("else with -3 if there are fewer cells than would be used");
        CountedProcessor x = started(24, "(quote (1 2 3))", argumentOf(13), MOST_FUEL);
        due("just all", x.used(), 24);
        x.run(1);
        String before = state(x);
        due("one too many", begun(x, argumentOf(14), MOST_FUEL), -3);
        due("nothing is changed", state(x), before);
        due("the text stays", x.begin(1), -3);
        due("as a program too", x.compile(), 1 + 6 * 2 + 1 + 1 + 2);
        // Constants alone can be too many, at whatever argument.
        CountedProcessor y = new CountedProcessor(24);
        due("it compiles", compiled(y, "(quote " + argumentOf(20) + ")"), 3);
        due("nil", begun(y, "nil", 10), -3);
        due("it compiles", compiled(y, "(quote " + argumentOf(19) + ")"), 3);
        due("nil", begun(y, "nil", 10), 24);
        due("no room for an argument", begun(y, "1", 10), -3);
    }

    private static void orderOfRefusals() {
        says("Refused with -1 if there is no program or fuel is not 1 .. 8000; else with -2 if the text cannot be "
                + "read; else with -3 if there are fewer cells than would be used.");
        CountedProcessor x = new CountedProcessor(24);
        due("no program, no text", x.begin(10), -1);
        compiled(x, "(quote " + argumentOf(20) + ")");
        due("no fuel, no text, no cells", x.begin(0), -1);
        due("no fuel, unread, no cells", begun(x, "(", 8001), -1);
        due("unread, no cells", x.begin(10), -2);
        due("no fuel, no cells", begun(x, "1", 0), -1);
        due("no cells", x.begin(10), -3);
    }

    private static void runOfSomeSteps() {
        says("Makes steps, n (1 .. 1000) of them or up to the end of the run");
        CountedProcessor x = started(60, SAME, "1", MOST_FUEL);
        due("one", x.run(1), 1);
        due("two", x.run(2), 2);
        due("more than there are", x.run(1000), 2);
        CountedProcessor y = started(60, SAME, "1", MOST_FUEL);
        due("just as many as there are", y.run(5), 5);
        due("done", y.status(), DONE);
        // More than 1000 steps and fewer than 8000 cycles: see run in PromiseTest.
        String fibonacci = "(letrec (lambda (n) (f n)) (f (lambda (n) "
                + "(if (leq n 1) n (add (f (sub n 1)) (f (sub n 2)))))))";
        CountedProcessor z = started(200, fibonacci, "9", MOST_FUEL);
        due("999", z.run(999), 999);
        due("still running", z.status(), RUNNING);
        CountedProcessor w = started(200, fibonacci, "9", MOST_FUEL);
        due("1000", w.run(1000), 1000);
        z.run(1);
        due("999 and 1 are 1000", state(z), state(w));
    }

    private static void runCountsInstructions() {
        says("how many instructions were done, STOP or one that says an error included (0 of a run that is over)");
        due("STOP", started(60, SAME, "1", MOST_FUEL).run(1000), 5);
        due("UNCALLABLE", started(60, "5", "1", MOST_FUEL).run(1000), 2);
        due("SHORT", started(60, "(lambda (x y) y)", "1", MOST_FUEL).run(1000), 3);
        due("UNPAIRED", started(60, "(lambda (x) (car x))", "1", MOST_FUEL).run(1000), 4);
        due("UNCOUNTED", started(60, "(lambda (x) (add x 1))", "a", MOST_FUEL).run(1000), 5);
        due("ZERO", started(60, "(lambda (x) (div 1 x))", "0", MOST_FUEL).run(1000), 5);
        due("TIRED is no instruction", started(60, SAME, "1", 9).run(1000), 2);
        due("FULL is no instruction", started(24, SAME, argumentOf(17), MOST_FUEL).run(1000), 1);
        CountedProcessor x = started(60, SAME, "1", 9);
        x.run(2);
        due("a step that only ends the run", x.run(1), 0);
    }

    private static void runOfARunThatIsOver() {
        says("0, too, if the run has ended.");
        String[][] ends = {{SAME, "1"}, {"5", "1"}, {"(lambda (x y) y)", "1"}, {"(lambda (x) (car x))", "1"},
            {"(lambda (x) (add x 1))", "a"}, {"(lambda (x) (div 1 x))", "0"}};
        for (String[] row : ends) {
            CountedProcessor x = finished(row[0], row[1]);
            String before = state(x);
            due("1 more of " + row[0], x.run(1), 0);
            due("1000 more of " + row[0], x.run(1000), 0);
            due("nothing is changed", state(x), before);
        }
        CountedProcessor tired = started(60, SAME, "1", 9);
        tired.run(1000);
        due("of a tired one", tired.run(1000), 0);
        due("it stays tired", tired.status() * 100 + tired.cycles(), TIRED * 100 + 9);
        CountedProcessor full = started(24, SAME, argumentOf(19), MOST_FUEL);
        full.run(1000);
        due("of a full one", full.run(1000), 0);
        due("it stays full, and nothing is spent", full.status() * 100 + full.cycles(), FULL * 100 + 48);
    }

    private static void runRefused() {
        says("-1 if n is not as said or there is no run");
        CountedProcessor x = new CountedProcessor(24);
        due("no program", x.run(1), -1);
        compiled(x, SAME);
        due("no run", x.run(1), -1);
        due("no run, and n is not as said", x.run(0), -1);
        begun(x, "1", MOST_FUEL);
        x.run(2);
        type(x, "(7");
        String before = state(x);
        int[] wrong = {LEAST, -1000, -1, 0, 1001, 1002, 65537, GREATEST};
        for (int n : wrong) {
            due("n of " + n, x.run(n), -1);
        }
        due("nothing is changed", state(x), before);
        x.run(1000);
        for (int n : wrong) {
            due("of a run that is over, n of " + n, x.run(n), -1);
        }
        type(x, ")");
        due("the text stays", x.begin(10), 7);
        compiled(x, SAME);
        due("no run any more", x.run(1), -1);
    }

    private static void statusOfNoRun() {
        says("0 no run (none yet, or compile() since)");
        CountedProcessor x = new CountedProcessor(24);
        due("none yet", x.status(), NO_RUN);
        compiled(x, SAME);
        due("compiled", x.status(), NO_RUN);
        begun(x, "(", 10);
        due("begin was refused", x.status(), NO_RUN);
        begun(x, "1", 10);
        due("begun", x.status(), RUNNING);
        compiled(x, "(");
        due("compile was refused", x.status(), RUNNING);
        compiled(x, SAME);
        due("compiled since", x.status(), NO_RUN);
    }

    private static void statusOfEachEnd() {
        says("1 RUNNING, 2 DONE, 3 TIRED, 4 FULL, 5 SHORT, 6 UNPAIRED, 7 UNCOUNTED, 8 ZERO, 9 UNCALLABLE");
        CountedProcessor x = started(24, SAME, "1", MOST_FUEL);
        for (int k = 0; k < 4; k++) {
            due("running", x.status(), 1);
            x.run(1);
        }
        due("before STOP", x.status(), 1);
        x.run(1);
        due("done", x.status(), 2);
        begun(x, "1", 1);
        x.run(2);
        due("tired", x.status(), 3);
        begun(x, argumentOf(19), MOST_FUEL);
        x.run(1);
        due("full", x.status(), 4);
        ends("(lambda (x y) y)", "1", 5);
        ends("(lambda (x) (cdr x))", "1", 6);
        ends("(lambda (x) (leq x 1))", "a", 7);
        ends("(lambda (x) (rem 1 x))", "0", 8);
        ends("(lambda (x) (x))", "0", 9);
    }

    /** A question about the run: -1 whenever there is none, and an answer once one was begun. */
    private static void asksForARun(String sentence, ToIntFunction<CountedProcessor> question, int atBeginning) {
        says(sentence);
        CountedProcessor x = new CountedProcessor(24);
        due("new", question.applyAsInt(x), -1);
        compiled(x, SAME);
        due("compiled", question.applyAsInt(x), -1);
        begun(x, "(", 10);
        due("begin was refused", question.applyAsInt(x), -1);
        begun(x, "1", MOST_FUEL);
        due("begun", question.applyAsInt(x), atBeginning);
        compiled(x, "(");
        due("compile was refused", question.applyAsInt(x), atBeginning);
        compiled(x, SAME);
        due("compiled since", question.applyAsInt(x), -1);
        begun(x, "1", MOST_FUEL);
        x.run(1000);
        due("ended", question.applyAsInt(x) >= 0, true);
        compiled(x, SAME);
        due("compiled since an end", question.applyAsInt(x), -1);
    }

    private static void answersWithoutRun() {
        asksForARun("Cycles spent; -1 if there is no run.", CountedProcessor::cycles, 0);
        asksForARun("that was the last to be done or not to be done); -1 if there is no run.",
                CountedProcessor::address, 0);
        asksForARun("Live cells (of a run that has ended, too, as it then was); -1 if there is no run.",
                CountedProcessor::live, 6);
        asksForARun("Used cells; -1 if there is no run.", CountedProcessor::used, 6);
        asksForARun("Collections made in the run; -1 if there is no run.", CountedProcessor::collections, 0);
    }

    private static void cycles() {
        says("Cycles spent");
        CountedProcessor x = started(24, SAME, "1", MOST_FUEL);
        for (int spent : new int[] {0, 3, 9, 12, 16, 17, 17}) {
            due("spent", x.cycles(), spent);
            x.run(1);
        }
        begun(x, "1", MOST_FUEL);
        due("anew", x.cycles(), 0);
    }

    private static void collections() {
        says("Collections made in the run");
        // Each of the steps from the fifth on finds too few cells: see full in RunEdgesTest.
        CountedProcessor x = started(24, "(lambda (x) (cons x (cons x (cons x (cons x (quote (a b c d e)))))))", "1",
                MOST_FUEL);
        for (int made : new int[] {0, 0, 0, 0, 0, 1, 1, 2, 3, 4, 4}) {
            due("collections", x.collections(), made);
            x.run(1);
        }
        due("full", x.status(), FULL);
    }

    private static void addressOfEachEnd() {
        says("(after an end of the run: the address of the instruction, STOP too, that was the last to be done "
                + "or not to be done)");
        due("STOP", finished(SAME, "1").address(), 4);
        due("UNCALLABLE at the end", finished("5", "1").address(), 1);
        due("UNCALLABLE", finished("(lambda (x) (x))", "1").address(), 3);
        due("SHORT", finished("(lambda (x y) y)", "1").address(), 1);
        due("UNPAIRED", finished("(lambda (x) (car x))", "1").address(), 2);
        due("UNCOUNTED", finished("(lambda (x) (add x 1))", "a").address(), 3);
        due("ZERO", finished("(lambda (x) (div 1 x))", "0").address(), 3);
        CountedProcessor tired = started(60, SAME, "1", 3);
        tired.run(1000);
        due("TIRED at AP", tired.address(), 3);
        CountedProcessor full = started(24, SAME, argumentOf(17), MOST_FUEL);
        full.run(1000);
        due("FULL at AP", full.address(), 3);
        CountedProcessor first = started(24, SAME, argumentOf(19), MOST_FUEL);
        first.run(1000);
        due("FULL at the first", first.address(), 0);
        says("The next address");
        CountedProcessor x = started(60, SAME, "1", MOST_FUEL);
        x.run(4);
        due("STOP is the next", x.address() * 10 + x.status(), 40 + RUNNING);
    }

    private static void depthOfRegisters() {
        says("How many pairs S (0) or E (1) is long, going from tail to tail");
        CountedProcessor x = started(60, "(lambda (x) (let (cons x (cons y 1)) (y 2)))", "(1 2 3)", MOST_FUEL);
        // LDF, AP, LDC 0, LDC, CONS, LDF, AP, LDC, LD, CONS, LD, CONS, RTN, RTN, STOP
        String[] rows = {"1 0", "2 0", "0 1", "1 1", "2 1", "1 1", "2 1", "0 2", "1 2", "2 2", "1 2", "2 2", "1 2",
            "1 1", "1 0", "1 0"};
        for (int k = 0; k < rows.length; k++) {
            due("S and E at step " + k, x.depth(0) + " " + x.depth(1), rows[k]);
            x.run(1);
        }
        says("-1 for other numbers or if there is no run");
        for (int register : new int[] {LEAST, -2, -1, 3, 4, 256, 65536, GREATEST}) {
            due("no such register " + register, x.depth(register), -1);
        }
        compiled(x, SAME);
        for (int register : new int[] {-1, 0, 1, 2, 3}) {
            due("no run " + register, x.depth(register), -1);
        }
    }

    private static void depthOfD() {
        says("how many marks D (2) leads over, going from tails of pairs and cells of marks to nil");
        CountedProcessor x = started(100, "(lambda (x) (if x 1 (if x 2 ((lambda () (if x 3 4))))))", "f", MOST_FUEL);
        // LDF, AP, LD, SEL, LD, SEL, LDC 0, LDF, AP, LD, SEL, LDC, JOIN, RTN, JOIN, JOIN, RTN, STOP
        int[] marks = {0, 0, 1, 1, 2, 2, 3, 3, 3, 4, 4, 5, 5, 4, 3, 2, 1, 0, 0};
        for (int k = 0; k < marks.length; k++) {
            due("marks at step " + k, x.depth(2), marks[k]);
            x.run(1);
        }
        due("done", result(x), "4");
    }

    private static void liveOfAnEndedRun() {
        says("Live cells (of a run that has ended, too, as it then was)");
        CountedProcessor done = finished(SAME, "(1 2)");
        due("done: names 3, S 1, the list 4", done.live(), 8);
        due("asking changes nothing", done.used(), 3 + 4 + 2 + 2 + 4 + 1 + 1);
        due("asking again", done.live(), 8);
        CountedProcessor error = finished("(lambda (x) (car 5))", "(1 2)");
        due("unpaired: names 3, constant 1, E 6, D 3, S 1", error.live(), 14);
        CountedProcessor tired = started(60, SAME, "(1 2)", 1);
        tired.run(1000);
        due("tired behind LDF: names 3, S 3 with the closure, the argument 5", tired.live(), 11);
        CountedProcessor full = started(24, SAME, argumentOf(19), MOST_FUEL);
        full.run(1000);
        due("full", full.live(), 24);
        type(full, "1");
        compiled(full, "(");
        due("as it then was", full.live(), 24);
    }

    private static void printedWhenDone() {
        says("How many characters the printed result has (80 at most); -1 if there is no run that is DONE.");
        due("no run", new CountedProcessor(24).printed(), -1);
        CountedProcessor x = started(60, SAME, "(1 2)", MOST_FUEL);
        for (int k = 0; k < 5; k++) {
            due("running", x.printed(), -1);
            x.run(1);
        }
        due("done", x.printed(), 5);
        begun(x, "123456", MOST_FUEL);
        due("a new run", x.printed(), -1);
        x.run(1000);
        due("its result", x.printed(), 6);
        begun(x, "(", MOST_FUEL);
        due("a refused begin leaves it", x.printed(), 6);
        begun(x, "1", 5);
        x.run(1000);
        due("tired", x.printed(), -1);
        due("an error", finished("5", "1").printed(), -1);
        due("80 at most", finished(SAME, argumentOf(120)).printed(), 80);
        CountedProcessor full = started(24, SAME, argumentOf(19), MOST_FUEL);
        full.run(1000);
        due("full", full.printed(), -1);
    }

    private static void characters() {
        says("Character k of the printed result (from 0); -1 if there is none.");
        CountedProcessor x = new CountedProcessor(60);
        due("no run", x.character(0), -1);
        compiled(x, SAME);
        begun(x, "(-7 ab)", MOST_FUEL);
        due("running", x.character(0), -1);
        x.run(1000);
        String want = "(-7 ab)";
        for (int k = 0; k < want.length(); k++) {
            due("character " + k, x.character(k), want.charAt(k));
        }
        for (int k : new int[] {LEAST, -80, -1, 7, 8, 79, 80, 256, GREATEST}) {
            due("outside, " + k, x.character(k), -1);
        }
        begun(x, "5", MOST_FUEL);
        due("not of the run before", x.character(0), -1);
        x.run(1000);
        due("the new one", x.character(0), '5');
        due("none of the old one", x.character(1), -1);
        CountedProcessor y = finished(SAME, argumentOf(120));
        due("the last of 80", y.character(79), '1');
        due("cut", y.character(80), -1);
        due("an error", finished("5", "1").character(0), -1);
    }
}
