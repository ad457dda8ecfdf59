/** The edges of A RUN, its steps and its collections: each method is one sentence of the document. */
public final class RunEdgesTest extends Check {
    /** With 24 cells all are used when its RTN is the next: see nineSteps. */
    private static final String SUMS = "(lambda (x) (add (add x 1) (add x 1)))";
    private static final String GROWING = "(lambda (x) (cons x (cons x (cons x (cons x (quote (a b c d e)))))))";

    public static void main(String[] args) {
        beginning();
        constantsAnew();
        allAreUsed();
        tiredAtTheFuel();
        tiredHereAlone();
        notBehindACollection();
        tiredBeforeACollection();
        fewerThanTaken();
        noneForNoCells();
        usedAreTheLive();
        costOfACollection();
        liveFromEachRegister();
        liveOverEachKind();
        liveConstantsAndNames();
        sharedCellsCountOnce();
        justEnoughBehindACollection();
        fullAtTheFirst();
        full();
        fullBeforeAnError();
        errorBehindACollection();
        errorsChangeNothingElse();
        nextAddressIsOneMore();
        resultsOutliveCollections();
        end();
    }

    private static String state(CountedProcessor x) {
        return "status " + x.status() + " cycles " + x.cycles() + " address " + x.address() + " S " + x.depth(0)
                + " E " + x.depth(1) + " D " + x.depth(2) + " live " + x.live() + " used " + x.used()
                + " collections " + x.collections();
    }

    private static void beginning() {
        says("then S = ((argument . nil) . nil), E and D are nil, the next address is 0");
        CountedProcessor x = started(60, SAME, "(1 2)", MOST_FUEL);
        due("at the beginning", state(x),
                "status 1 cycles 0 address 0 S 1 E 0 D 0 live 9 used 9 collections 0");
        x.run(3);
        begun(x, "7", MOST_FUEL);
        due("at the next beginning", state(x),
                "status 1 cycles 0 address 0 S 1 E 0 D 0 live 6 used 6 collections 0");
        prints("(lambda (x) (cons x x))", "()", "(nil)");
    }

    private static void constantsAnew() {
        says("of the constants (each k anew in each run)");
        CountedProcessor x = new CountedProcessor(24);
        compiled(x, "(lambda (x) (cons 1 (quote (1 a))))");
        for (int k = 0; k < 5; k++) {
            due("begin", begun(x, "1", MOST_FUEL), 3 + 1 + 4 + 1 + 2);
            x.run(1000);
            due("the result", result(x), "(1 1 a)");
        }
    }

    private static void allAreUsed() {
        says("all these cells (the two new pairs, too) are USED");
        CountedProcessor x = new CountedProcessor(24);
        compiled(x, "(quote (1 a))");
        due("begin", begun(x, "(b nil)", MOST_FUEL), 3 + 4 + 3 + 2);
        due("used", x.used(), 12);
        due("live", x.live(), 12);
    }

    private static void tiredAtTheFuel() {
        says("(1) if the cycles spent are not less than the fuel, the run ends as TIRED");
        // LDF 3, AP 9, LD 12, RTN 16, STOP 17
        int[][] rows = {{1, 1, 3, TIRED, 3}, {2, 1, 3, TIRED, 3}, {3, 1, 3, TIRED, 3}, {4, 2, 9, TIRED, 1},
            {9, 2, 9, TIRED, 1}, {10, 3, 12, TIRED, 2}, {12, 3, 12, TIRED, 2}, {13, 4, 16, TIRED, 4},
            {16, 4, 16, TIRED, 4}, {17, 5, 17, DONE, 4}, {18, 5, 17, DONE, 4}};
        for (int[] row : rows) {
            CountedProcessor x = started(60, SAME, "1", row[0]);
            due("done with fuel " + row[0], x.run(1000), row[1]);
            due("cycles with fuel " + row[0], x.cycles(), row[2]);
            due("status with fuel " + row[0], x.status(), row[3]);
            due("address with fuel " + row[0], x.address(), row[4]);
        }
        // 376 calls of 70 cycles each and 377 of 21, of which 13 at most are open, with 9 cells each.
        CountedProcessor y = started(200, "(letrec (lambda (n) (f n)) (f (lambda (n) "
                + "(if (leq n 1) n (add (f (sub n 1)) (f (sub n 2)))))))", "13", MOST_FUEL);
        for (int k = 0; k < 9; k++) {
            y.run(1000);
        }
        due("a run that is too long is tired", y.status(), TIRED);
        due("not before its fuel is spent", y.cycles() >= MOST_FUEL, true);
    }

    private static void tiredHereAlone() {
        says("(this is looked at here alone: not behind a COLLECTION)");
        CountedProcessor x = started(60, SAME, "1", 9);
        x.run(2);
        due("the fuel is spent, but no step has looked", x.cycles() * 10 + x.status(), 90 + RUNNING);
        due("the next step looks", x.run(1), 0);
        due("and ends it", x.status(), TIRED);
        due("nothing else is done", state(x),
                "status 3 cycles 9 address 1 S 0 E 1 D 1 live 9 used 12 collections 0");
    }

    /**
     * Eight cells are used at the beginning; LDF 10, AP 14, LD 15, LDC 16, ADD 18, LD 19, LDC 20,
     * ADD 22, ADD 24; then RTN, at the address 8, needs one. 31 cycles are spent by then.
     */
    private static CountedProcessor nineSteps(int fuel) {
        CountedProcessor x = started(24, SUMS, "5", fuel);
        due("nine steps", x.run(9), 9);
        due("no cell is free", state(x), "status 1 cycles 31 address 8 S 1 E 1 D 1 live 13 used 24 collections 0");
        return x;
    }

    private static void notBehindACollection() {
        says("(this is looked at here alone: not behind a COLLECTION)");
        CountedProcessor x = nineSteps(32);
        due("RTN is done though the collection spends the fuel", x.run(1), 1);
        due("behind RTN", state(x), "status 1 cycles 72 address 10 S 1 E 0 D 0 live 7 used 14 collections 1");
        due("the next step is not", x.run(1), 0);
        due("tired", x.status(), TIRED);
    }

    private static void tiredBeforeACollection() {
        says("(1) if the cycles spent are not less than the fuel, the run ends as TIRED");
        CountedProcessor x = nineSteps(31);
        due("no step more", x.run(1000), 0);
        due("no collection", state(x), "status 3 cycles 31 address 8 S 1 E 1 D 1 live 13 used 24 collections 0");
        CountedProcessor y = started(24, SAME, argumentOf(19), 1);
        due("not tired before its first instruction", y.run(1000), 0);
        due("but full", y.status(), FULL);
    }

    private static void fewerThanTaken() {
        says("(2) If the cells that are not used are fewer than the instruction at the next address takes, "
                + "a COLLECTION is made");
        CountedProcessor x = started(24, SUMS, "5", MOST_FUEL);
        x.run(8);
        due("two are free", x.used(), 22);
        due("ADD takes them", x.run(1), 1);
        due("without a collection", x.collections(), 0);
        due("all are used", x.used(), 24);
        // At the beginning 6 + A are used; LDC 1, AP 4: with A 13 just four are free, with A 14 three.
        CountedProcessor y = started(24, "5", argumentOf(13), MOST_FUEL);
        y.run(1000);
        due("just four for AP", y.collections() * 10 + y.status(), UNCALLABLE);
        CountedProcessor z = started(24, "5", argumentOf(14), MOST_FUEL);
        z.run(1000);
        due("three for AP", z.collections() * 10 + z.status(), 10 + FULL);
    }

    private static void noneForNoCells() {
        says("STOP, 1, 0");
        // 5 + 11 are used at the beginning, LDF 2, AP 4, LD 1, RTN 1.
        CountedProcessor x = started(24, SAME, argumentOf(11), MOST_FUEL);
        x.run(4);
        due("all are used at STOP", x.used(), 24);
        x.run(1);
        due("STOP needs none", x.status() * 10 + x.collections(), DONE * 10);
        says("JOIN, 2, 0");
        // 7 + 8 are used at the beginning, LDF 2, AP 4, LD 1, SEL 1, LDC 1.
        CountedProcessor y = started(24, "(lambda (x) (if x 1 2))", argumentOf(8), MOST_FUEL);
        y.run(5);
        due("all are used at JOIN", y.used(), 24);
        due("JOIN is done", y.run(1), 1);
        due("JOIN needs none", y.collections(), 0);
        due("all are used still", y.used(), 24);
        y.run(1);
        due("RTN needs one", y.collections(), 1);
    }

    private static void usedAreTheLive() {
        says("used are the LIVE cells alone then");
        CountedProcessor x = nineSteps(MOST_FUEL);
        x.run(1);
        due("13 were live, and RTN makes one", x.used(), 14);
        due("live are fewer then: names 3, constants 2, S 2", x.live(), 7);
        x.run(1);
        due("STOP makes none", x.used(), 14);
        due("the result", result(x), "12");
    }

    private static void costOfACollection() {
        says("it costs as many cycles as there are cells and live cells together "
                + "(the instruction is done all the same)");
        CountedProcessor x = nineSteps(MOST_FUEL);
        due("the instruction is done", x.run(1), 1);
        due("24 cells, 13 live ones, and RTN's 4", x.cycles(), 31 + 24 + 13 + 4);
        // With 25 cells one is free for RTN: no collection, no cost.
        CountedProcessor y = started(25, SUMS, "5", MOST_FUEL);
        y.run(10);
        due("no collection", y.cycles() * 10 + y.collections(), (31 + 4) * 10);
    }

    private static void liveFromEachRegister() {
        says("those that can be reached from S, E, D, the constants and the three names over pairs, closures and marks");
        // Names 3, argument 4 and the pair around it, the pair of S.
        CountedProcessor x = started(60, SAME, "(1 2)", MOST_FUEL);
        due("S", x.live(), 3 + 4 + 2);
        // LDF: the closure and its pair. AP: S is nil; E is a pair with the list, D two pairs and a mark.
        x.run(1);
        due("S with a closure", x.live(), 3 + 4 + 2 + 2);
        x.run(1);
        due("E and D", x.live(), 3 + 4 + 1 + 1 + 3);
        // The S that lies on D while a function runs: the pair of S with the number 9.
        CountedProcessor y = started(60, "(lambda (x) (add (add 4 5) ((lambda () 1))))", "(1 2)", MOST_FUEL);
        // LDF, AP, LDC, LDC, ADD, LDC 0, LDF, AP
        y.run(8);
        due("S, E and D saved on D", y.live(), 3 + 3 + 4 + 1 + 1 + 3 + 2 + 1 + 3);
    }

    private static void liveOverEachKind() {
        says("over pairs, closures and marks");
        // Over a closure: names 3, S 1, the closure 1, its frame 1, the list 1 with 7.
        due("closures", finished("(lambda (x) (lambda () x))", "7").live(), 3 + 1 + 1 + 1 + 2);
        // Over a mark: names 3, constants 2, E 2; D: SEL's mark, then AP's two pairs and mark.
        CountedProcessor x = started(60, "(lambda (x) (if x 1 2))", "nil", MOST_FUEL);
        x.run(4);
        due("marks", x.live(), 3 + 2 + 2 + 1 + 3);
        // Over heads and tails of pairs.
        due("pairs", finished(SAME, "((1 2) (3))").live(), 3 + 1 + 5 + 3);
        // In a circle: names 3, S 1, the closure 1, the frame of the letrec 1, its list 1.
        due("a closure that holds itself", finished("(letrec (lambda (n) f) (f (lambda () f)))", "1").live(),
                3 + 1 + 1 + 1 + 1);
    }

    private static void liveConstantsAndNames() {
        says("the constants and the three names");
        due("constants that nothing else holds", finished("(lambda (x) (if x 1 (quote (a b))))", "t").live(),
                3 + 1 + 4 + 1);
        due("the three names", finished("(lambda (x) (quote nil))", "1").live(), 3 + 1);
        CountedProcessor x = started(24, "(lambda (x) (car (cons (quote (a b)) (add x (add 1 2)))))", "5", MOST_FUEL);
        x.run(1000);
        due("a constant is there behind a collection", result(x), "(a b)");
        due("there was one", x.collections() > 0, true);
    }

    private static void sharedCellsCountOnce() {
        says("used are the LIVE cells alone then, those that can be reached");
        // The pair of x and x: names 3, S 1, the pair 1, x 2.
        due("shared", finished("(lambda (x) (cons x x))", "(1)").live(), 3 + 1 + 1 + 2);
    }

    private static void justEnoughBehindACollection() {
        says("If those not used are too few even then");
        // 16 at the beginning; LDF 18, AP 22, LDC 23, LD 24. Live besides S: names 3, constant 10, E 3, D 3.
        CountedProcessor x = started(24, GROWING, "1", MOST_FUEL);
        x.run(4);
        due("all are used", x.used(), 24);
        due("CONS", x.run(1), 1);
        due("it has more than enough", x.used(), 21 + 2);
        x.run(1);
        due("all are used again", x.used(), 24);
        due("CONS again", x.run(1), 1);
        due("it has just enough", x.used(), 22 + 2);
        due("two collections", x.collections(), 2);
        due("running", x.status(), RUNNING);
    }

    private static void fullAtTheFirst() {
        says("the run ends as FULL (the collection was made)");
        CountedProcessor x = started(24, SAME, argumentOf(19), MOST_FUEL);
        due("nothing is done", x.run(1000), 0);
        due("full", state(x), "status 4 cycles 48 address 0 S 1 E 0 D 0 live 24 used 24 collections 1");
        due("it is over", x.run(1), 0);
        due("no more collections", x.collections(), 1);
        CountedProcessor y = started(24, SAME, argumentOf(18), MOST_FUEL);
        y.run(1000);
        due("one free is too few for LDF", state(y),
                "status 4 cycles 47 address 0 S 1 E 0 D 0 live 23 used 23 collections 1");
        CountedProcessor z = started(24, SAME, argumentOf(17), MOST_FUEL);
        due("two are just enough for LDF", z.run(1000), 1);
        due("and none is left for AP", state(z),
                "status 4 cycles 51 address 3 S 2 E 0 D 0 live 24 used 24 collections 1");
    }

    private static void full() {
        says("If those not used are too few even then, the run ends as FULL (the collection was made).");
        CountedProcessor x = started(24, GROWING, "1", MOST_FUEL);
        due("LDF AP LDC LD CONS LD CONS LD", x.run(1000), 8);
        int instructions = 3 + 6 + 2 + 3 + 3 + 3 + 3 + 3;
        due("full", state(x), "status 4 cycles " + (instructions + 4 * 24 + 21 + 22 + 22 + 23)
                + " address 7 S 2 E 1 D 1 live 23 used 23 collections 4");
        due("no result", x.printed(), -1);
    }

    private static void fullBeforeAnError() {
        says("If those not used are too few even then, the run ends as FULL (the collection was made).");
        // AP would say UNCALLABLE, but four cells are looked for first.
        CountedProcessor x = started(24, "5", argumentOf(14), MOST_FUEL);
        due("LDC alone", x.run(1000), 1);
        due("full", state(x), "status 4 cycles 47 address 1 S 2 E 0 D 0 live 21 used 21 collections 1");
        // ADD would say UNCOUNTED. Names 3, constant 1, argument 13 and its pair, E 1, D 3, S 2: 24 live.
        CountedProcessor y = started(24, "(lambda (x) (add x 1))", argumentOf(13), MOST_FUEL);
        // 19 at the beginning, LDF 21, AP: 3 are free and all live.
        due("AP is not done", y.run(1000), 1);
        due("full at AP", y.status() * 100 + y.address(), 100 * FULL + 5);
        // 18 at the beginning, LDF 20, AP 24; LD: live 21, used 22; LDC 23; ADD: one is free, 23 are live.
        CountedProcessor z = started(24, "(lambda (x) (add x 1))", argumentOf(12), MOST_FUEL);
        due("ADD is not done", z.run(1000), 4);
        due("full at ADD", state(z), "status 4 cycles " + (3 + 6 + 3 + 2 + 24 + 21 + 24 + 23)
                + " address 3 S 2 E 1 D 1 live 23 used 23 collections 2");
        // One cell fewer in the argument, and there are just enough: the error is said.
        CountedProcessor w = started(24, "(lambda (x) (add x 1))", argumentOf(11), MOST_FUEL);
        due("ADD is done", w.run(1000), 5);
        due("uncounted", w.status(), UNCOUNTED);
        // 17, LDF 19, AP 23, LD 24; LDC: live 21, used 22; ADD: two are free.
        due("with just enough cells", state(w), "status 7 cycles " + (3 + 6 + 3 + 2 + 4 + 24 + 21)
                + " address 3 S 2 E 1 D 1 live 22 used 22 collections 1");
    }

    private static void errorBehindACollection() {
        says("otherwise the cells that it makes are used");
        // 17 at the beginning, LDF 19, AP 23, LDC 24; CAR: live 3 + 14 + 3 + 1 = 21, and it says UNPAIRED.
        CountedProcessor x = started(24, "(lambda (x) (car (quote nil)))", argumentOf(12), MOST_FUEL);
        due("LDF AP LDC CAR", x.run(1000), 4);
        due("unpaired", state(x), "status 6 cycles " + (3 + 6 + 2 + 24 + 21 + 2)
                + " address 2 S 1 E 1 D 1 live 21 used 21 collections 1");
    }

    /** Runs up to the last step, which says an error, and looks at what has changed. */
    private static void changesCyclesAlone(String body, String argument, int steps, int cycles, int status) {
        CountedProcessor x = started(60, "(lambda (x) " + body + ")", argument, MOST_FUEL);
        due("steps ahead of the error of " + body, x.run(steps), steps);
        String before = state(x);
        int spent = x.cycles();
        due("the step with the error of " + body, x.run(1000), 1);
        due("the error of " + body, state(x),
                before.replace("status 1 cycles " + spent, "status " + status + " cycles " + (spent + cycles)));
    }

    private static void errorsChangeNothingElse() {
        says("If it says an error, that is the end of the run and nothing else is changed by it but the cycles");
        changesCyclesAlone("((lambda (y z) z) 1)", "5", 7, 4, SHORT);
        changesCyclesAlone("(add 1 (car x))", "5", 4, 2, UNPAIRED);
        changesCyclesAlone("(add 1 (cdr x))", "5", 4, 2, UNPAIRED);
        changesCyclesAlone("(cons 1 (add x 1))", "a", 4, 4, UNCOUNTED);
        changesCyclesAlone("(cons 1 (sub x 1))", "a", 4, 4, UNCOUNTED);
        changesCyclesAlone("(cons 1 (mul x 1))", "a", 4, 6, UNCOUNTED);
        changesCyclesAlone("(cons 1 (div x 1))", "a", 4, 8, UNCOUNTED);
        changesCyclesAlone("(cons 1 (rem x 1))", "a", 4, 8, UNCOUNTED);
        changesCyclesAlone("(cons 1 (leq x 1))", "a", 4, 4, UNCOUNTED);
        changesCyclesAlone("(add 1 (div 1 x))", "0", 5, 8, ZERO);
        changesCyclesAlone("(add 1 (rem 1 x))", "0", 5, 8, ZERO);
        changesCyclesAlone("(add 1 (x 2))", "5", 7, 6, UNCALLABLE);
        // In the branch of an if, where D is a mark.
        changesCyclesAlone("(if x 1 (car x))", "5", 5, 2, UNPAIRED);
    }

    private static void nextAddressIsOneMore() {
        says("the next address is one more, unless it says otherwise");
        CountedProcessor x = started(60, "(lambda (x) (if (atom x) 1 (car (cons 2 3))))", "(7)", MOST_FUEL);
        int[] addresses = {0, 12, 1, 2, 3, 6, 7, 8, 9, 10, 11, 13, 13, 13};
        for (int address : addresses) {
            due("address", x.address(), address);
            x.run(1);
        }
    }

    private static void resultsOutliveCollections() {
        says("cells that cannot be reached any more are collected when too few are free");
        String count = "(letrec (lambda (n) (f n (quote nil))) "
                + "(f (lambda (n a) (if (eq n 0) a (f (sub n 1) (cons n a))))))";
        CountedProcessor x = started(140, count, "9", MOST_FUEL);
        x.run(1000);
        due("a list that was made meanwhile", result(x), "(1 2 3 4 5 6 7 8 9)");
        due("there were collections", x.collections() > 1, true);
    }
}
