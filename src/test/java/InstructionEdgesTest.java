/** The edges of CELLS and of the instructions: each method is one sentence of the document. */
public final class InstructionEdgesTest extends Check {
    public static void main(String[] args) {
        namesForEver();
        cellsOfData();
        cellsOfLists();
        cellsOfEachInstruction();
        cyclesOfEachInstruction();
        restOfSStays();
        newAndSharedCells();
        loadTooShort();
        loadJustLongEnough();
        loadBeforeTheFrameIsFilled();
        nextAddressOfLdf();
        carAndCdr();
        atom();
        wrapAround();
        division();
        leastInt();
        uncounted();
        zero();
        leq();
        eq();
        select();
        join();
        apply();
        applyWithin();
        applyRecursively();
        giveBack();
        stop();
        end();
    }

    private static void namesForEver() {
        says("The names nil, t and f each have one cell for ever.");
        CountedProcessor x = new CountedProcessor(24);
        compiled(x, "(quote (nil t f nil t f))");
        due("a list of six pairs and no more", begun(x, "nil", 10), 3 + 6 + 0 + 2);
        due("t", begun(x, "t", 10), 3 + 6 + 0 + 2);
        due("f", begun(x, "f", 10), 3 + 6 + 0 + 2);
        due("any other name", begun(x, "n", 10), 3 + 6 + 1 + 2);
        CountedProcessor y = started(24, "(quote t)", "f", MOST_FUEL);
        due("the three are live though nothing leads to them", y.live(), 3 + 2);
        due("and used", y.used(), 3 + 2);
        gives("(if x 1 2)", "t", "1");
        gives("(cdr x)", "(1)", "nil");
    }

    private static void cellsOfData() {
        says("every other number or name takes a cell");
        CountedProcessor x = new CountedProcessor(24);
        compiled(x, "(quote nil)");
        due("a number", begun(x, "0", 10), 5 + 1);
        due("a name", begun(x, "a", 10), 5 + 1);
        due("the same number twice", begun(x, "(7 7)", 10), 5 + 4);
        due("the same name twice", begun(x, "(a a)", 10), 5 + 4);
        due("the name of a form", begun(x, "car", 10), 5 + 1);
        CountedProcessor y = new CountedProcessor(24);
        compiled(y, "(add 7 7)");
        due("the same constant twice", begun(y, "7", 10), 5 + 3);
    }

    private static void cellsOfLists() {
        says("a list without parts is nil; any other a pair of its first part and of the list of the rest");
        CountedProcessor x = new CountedProcessor(24);
        compiled(x, "(quote ())");
        due("()", begun(x, "()", 10), 5);
        due("(())", begun(x, "(())", 10), 5 + 1);
        due("(() ())", begun(x, "(() ())", 10), 5 + 2);
        due("(1)", begun(x, "(1)", 10), 5 + 2);
        due("((1) 2)", begun(x, "((1) 2)", 10), 5 + 5);
        gives("(cons (eq x (quote nil)) (atom x))", "()", "(t . t)");
        gives("(cdr (cdr x))", "(1 2)", "nil");
        gives("(car (car x))", "((1 2) 3)", "1");
    }

    /** A body in which an instruction stands, and how the document writes it: name, cycles, cells. */
    private static final String[][] INSTRUCTIONS = {
        {"x", "LD i j, 3 + i + j cycles, 1 cell"}, {"1", "LDC k, 2, 1"}, {"(lambda () 1)", "LDF p, 3, 2"},
        {"(cons 1 2)", "CONS, 3, 2"}, {"(car x)", "CAR, 2, 1"}, {"(cdr x)", "CDR, 2, 1"},
        {"(atom x)", "ATOM, 2, 1"}, {"(add 1 2)", "ADD, 4, 2"}, {"(sub 1 2)", "SUB, 4, 2"},
        {"(mul 1 2)", "MUL, 6, 2"}, {"(div 1 2)", "DIV, 8, 2"}, {"(rem 1 2)", "REM, 8, 2"},
        {"(leq 1 2)", "LEQ, 4, 1"}, {"(eq 1 2)", "EQ, 3, 1"}, {"(if 1 2 3)", "SEL p q, 3, 1"},
        {"(if 1 2 3)", "JOIN, 2, 0"}, {"((lambda () 1))", "AP, 6, 4"}, {"(letrec 1)", "DUM, 2, 1"},
        {"(letrec 1)", "RAP, 7, 3"}, {"1", "RTN, 4, 1"}, {"1", "STOP, 1, 0"}};

    private static String nameIn(String instruction) {
        return instruction.split("[ ,]")[0];
    }

    /** In the row of LD it is what LD 0 0 costs. */
    private static int cyclesIn(String instruction) {
        return Integer.parseInt(instruction.split(", ")[1].split(" ")[0]);
    }

    private static int cellsIn(String instruction) {
        return Integer.parseInt(instruction.split(", ")[2].split(" ")[0]);
    }

    /** A run of the body, within a lambda, up to where the instruction is the next one. */
    private static CountedProcessor upTo(String op, String body, String argument, int cells) {
        CountedProcessor x = started(cells, "(lambda (x) " + body + ")", argument, MOST_FUEL);
        // The AP at the end of the program is done ahead of the body, by the second step.
        x.run(op.equals("LDF") || op.equals("AP") ? 2 : 1);
        for (int k = 0; k < 50 && opOf(x.code(x.address())) != word(op); k++) {
            x.run(1);
        }
        return x;
    }

    private static void cellsOfEachInstruction() {
        for (String[] row : INSTRUCTIONS) {
            says(row[1]);
            CountedProcessor x = upTo(nameIn(row[1]), row[0], "(1 2)", 200);
            int before = x.used();
            due("it is done", x.run(1), 1);
            says("a step takes as many cells as it makes new ones: the number behind the cycles");
            due("cells of " + row[1], x.used() - before, cellsIn(row[1]));
        }
        says("If the cells that are not used are fewer than the instruction at the next address takes");
        for (String[] row : INSTRUCTIONS) {
            collectsForOneTooFew(row[0], nameIn(row[1]), cellsIn(row[1]));
        }
    }

    private static void collectsForOneTooFew(String body, String op, int takes) {
        String argument = "(1 1 1 1 1 1 1 1 1 1)";
        int before = upTo(op, body, argument, 200).used();
        CountedProcessor justEnough = upTo(op, body, argument, before + takes);
        due(op + " finds no collection made", justEnough.collections(), 0);
        justEnough.run(1);
        due(op + " with just enough cells free", justEnough.collections(), 0);
        if (takes > 0) {
            CountedProcessor tooFew = upTo(op, body, argument, before + takes - 1);
            due(op + " finds no collection made, one cell fewer", tooFew.collections(), 0);
            tooFew.run(1);
            due(op + " with one too few", tooFew.collections(), 1);
        }
    }

    private static void cyclesOfEachInstruction() {
        for (String[] row : INSTRUCTIONS) {
            says(row[1]);
            CountedProcessor x = upTo(nameIn(row[1]), row[0], "(1 2)", 200);
            int before = x.cycles();
            x.run(1);
            due("its cycles", x.cycles() - before, cyclesIn(row[1]));
        }
        says("LD i j, 3 + i + j cycles, 1 cell");
        due("LD 0 0", loadCycles("(lambda (w) w)"), 3);
        due("LD 0 2", loadCycles("(lambda (w) (let c (a 1) (b 2) (c 3)))"), 5);
        due("LD 1 0", loadCycles("(lambda (w) (let (let a (z 1)) (a 1)))"), 4);
        due("LD 2 1", loadCycles("(lambda (w) (let (let (let b)) (a 1) (b 2)))"), 6);
    }

    /** What the only LD of a program costs. */
    private static int loadCycles(String program) {
        CountedProcessor x = started(200, program, "1", MOST_FUEL);
        int spent = 0;
        for (int k = 0; k < 60 && x.status() == RUNNING; k++) {
            int before = x.cycles();
            boolean isLoad = opOf(x.code(x.address())) == word("LD");
            x.run(1);
            spent += isLoad ? x.cycles() - before : 0;
        }
        return spent;
    }

    private static void restOfSStays() {
        says("i times the tail of E, its head, j times the tail of that, the head of that is v; S becomes (v . S)");
        gives("(cons x 9)", "5", "(5 . 9)");
        says("LDC k, 2, 1: S becomes (constant k . S)");
        gives("(cons 7 9)", "5", "(7 . 9)");
        says("CONS, 3, 2: of S = (a . (b . s)): ((a . b) . s)");
        gives("(cons (cons 7 2) 9)", "5", "((7 . 2) . 9)");
        says("CAR, 2, 1; CDR, 2, 1: of (a . s): (the head, tail of a . s)");
        gives("(cons (car x) 9)", "(1 2)", "(1 . 9)");
        gives("(cons (cdr x) 9)", "(1 2)", "((2) . 9)");
        says("ADD, 4, 2; SUB, 4, 2; MUL, 6, 2; DIV, 8, 2; REM, 8, 2: of (b . (a . s)): (a new number . s), a op b");
        gives("(cons (add 7 2) 8)", "5", "(9 . 8)");
        gives("(cons (sub 7 2) 8)", "5", "(5 . 8)");
        gives("(cons (mul 7 2) 8)", "5", "(14 . 8)");
        gives("(cons (div 7 2) 8)", "5", "(3 . 8)");
        gives("(cons (rem 7 2) 8)", "5", "(1 . 8)");
        says("LEQ, 4, 1: of (b . (a . s)): (t . s) if a is at most b, else (f . s)");
        gives("(cons (leq 7 2) 8)", "5", "(f . 8)");
        says("EQ, 3, 1: of (b . (a . s)): (t . s) if a and b are both numbers or both names and equal, else (f . s)");
        gives("(cons (eq 7 2) 8)", "5", "(f . 8)");
        says("LDF p, 3, 2: S becomes (closure of the next address and E . S)");
        gives("(cons (lambda () 1) 8)", "5", "(fn . 8)");
    }

    /** In each body two values are held by a pair, on S; live are these, the names 3 and the constants. */
    private static void newAndSharedCells() {
        says("of (b . (a . s)): (a new number . s)");
        for (String op : new String[] {"(add x 0)", "(sub x 0)", "(mul x 1)", "(div x 1)", "(rem x 9)"}) {
            String program = "(lambda (x) (cons x " + op + "))";
            prints(program, "5", "(5 . 5)");
            due("a new 5 beside the old one: " + op, finished(program, "5").live(), 3 + 1 + 2 + 2);
        }
        says("LDC k, 2, 1: S becomes (constant k . S)");
        due("the cells of the constants", finished("(lambda (x) (cons 1 2))", "5").live(), 3 + 2 + 2);
        says("the head of that is v; S becomes (v . S)");
        due("the cell of x twice", finished("(lambda (x) (cons x x))", "5").live(), 3 + 2 + 1);
        says("of (a . s): (the head, tail of a . s)");
        due("the head lies in the list", finished("(lambda (x) (cons x (car x)))", "((1))").live(), 3 + 2 + 3);
        due("the tail lies in the list", finished("(lambda (x) (cons x (cdr x)))", "(1 2)").live(), 3 + 2 + 4);
        says("The names nil, t and f each have one cell for ever.");
        due("t and f are the names", finished("(lambda (x) (cons (atom x) (leq 2 1)))", "5").live(), 3 + 2 + 2);
        due("t and f are the names", finished("(lambda (x) (cons (eq x x) (eq x 1)))", "5").live(), 3 + 1 + 2);
    }

    private static void loadTooShort() {
        says("SHORT, if a tail or head is to be taken of what is no pair");
        ends("(lambda (x y) y)", "1", SHORT);
        ends("(lambda (x y z) z)", "1", SHORT);
        ends("(lambda (x) ((lambda (y) y)))", "1", SHORT);
        ends("(lambda (x) ((lambda (y z) z) 1))", "1", SHORT);
        ends("(lambda (x) ((lambda (y z) (lambda () z)) 1))", "1", DONE);
        ends("(lambda (x) (((lambda (y z) (lambda () z)) 1)))", "1", SHORT);
        // The argument is one argument, also when it is a list.
        ends("(lambda (x y) y)", "(1 2)", SHORT);
        CountedProcessor x = finished("(lambda (x y z) z)", "5");
        due("LD 0 2 costs all the same", x.cycles(), 3 + 6 + 3 + 2);
        due("S is as it was", x.depth(0), 0);
        due("no cell is used by it", x.used(), 3 + 1 + 2 + 2 + 4);
        due("its address", x.address(), 1);
    }

    private static void loadJustLongEnough() {
        says("i times the tail of E, its head, j times the tail of that, the head of that is v");
        prints("(lambda (x) ((lambda (y z) z) 1 2))", "5", "2");
        prints("(lambda (x) ((lambda (y z) y) 1))", "5", "1");
        // More arguments than names do no harm.
        prints("(lambda (x) ((lambda (y) y) 1 2 3))", "5", "1");
        prints("(lambda () 7)", "5", "7");
        prints("(lambda (x) ((lambda () x) 1))", "5", "5");
    }

    private static void loadBeforeTheFrameIsFilled() {
        says("DUM, 2, 1: E becomes (nil . E)");
        ends("(letrec x (x x))", "1", SHORT);
        ends("(letrec (lambda (n) x) (x y) (y 1))", "1", SHORT);
        ends("(letrec (lambda (n) x) (x 1) (y x))", "1", SHORT);
        // Frames around it can be had, and those of the letrec too when a function is called later on.
        prints("(lambda (n) (letrec x (x n)))", "4", "4");
        prints("(letrec (lambda (n) (f)) (f (lambda () y)) (y 3))", "1", "3");
        CountedProcessor x = started(24, "(letrec 1)", "1", MOST_FUEL);
        x.run(1);
        due("E is one pair long", x.depth(1), 1);
        due("of nil and nil", x.live(), 3 + 1 + 1 + 2 + 1);
    }

    private static void nextAddressOfLdf() {
        says("S becomes (closure of the next address and E . S), the next address is p");
        CountedProcessor x = started(24, "(lambda (x) (add x 1))", "5", MOST_FUEL);
        x.run(1);
        due("p", x.address(), 5);
        due("S", x.depth(0), 2);
        x.run(1);
        due("the closure's address", x.address(), 1);
    }

    private static void carAndCdr() {
        says("UNPAIRED, if a is no pair");
        for (String op : new String[] {"car", "cdr"}) {
            for (String argument : new String[] {"1", "0", "a", "nil", "t", "f", "()"}) {
                ends("(lambda (x) (" + op + " x))", argument, UNPAIRED);
            }
            ends("(lambda (x) (" + op + " (lambda () 1)))", "1", UNPAIRED);
            ends("(lambda (x) (" + op + " x))", "(())", DONE);
        }
        gives("(car x)", "(())", "nil");
        gives("(cdr x)", "(1)", "nil");
        gives("(car (cons 1 2))", "1", "1");
        gives("(cdr (cons 1 2))", "1", "2");
    }

    private static void atom() {
        says("(t . s) if a is a number or name, else (f . s)");
        for (String argument : new String[] {"0", "-1", "a", "nil", "t", "f", "()"}) {
            gives("(atom x)", argument, "t");
        }
        gives("(atom x)", "(1)", "f");
        gives("(atom x)", "(())", "f");
        gives("(atom (lambda () 1))", "1", "f");
        // The rest of S stays.
        gives("(cons (atom x) 1)", "5", "(t . 1)");
    }

    private static final String GREATEST = "(add (mul 65536 32767) 65535)";
    private static final String LEAST = "(mul 65536 32768)";

    private static void wrapAround() {
        says("a op b in ints that wrap");
        gives(GREATEST, "0", "2147483647");
        gives(LEAST, "0", "-2147483648");
        gives("(add x " + GREATEST + ")", "1", "-2147483648");
        gives("(add x " + LEAST + ")", "-1", "2147483647");
        gives("(sub " + LEAST + " x)", "1", "2147483647");
        gives("(sub x " + LEAST + ")", "0", "-2147483648");
        gives("(sub " + GREATEST + " x)", "-1", "-2147483648");
        gives("(mul x x)", "65536", "0");
        gives("(mul x x)", "46341", "-2147479015");
        gives("(mul x x)", "46340", "2147395600");
        gives("(mul x x)", "999999999", "808348673");
        gives("(mul " + LEAST + " x)", "-1", "-2147483648");
        gives("(sub 3 5)", "0", "-2");
    }

    private static void division() {
        says("div rounded towards 0 and rem what is left then");
        String[][] rows = {{"7", "2", "3", "1"}, {"-7", "2", "-3", "-1"}, {"7", "-2", "-3", "1"},
            {"-7", "-2", "3", "-1"}, {"6", "-3", "-2", "0"}, {"1", "2", "0", "1"}, {"-1", "2", "0", "-1"},
            {"0", "5", "0", "0"}, {"0", "-5", "0", "0"}, {"5", "1", "5", "0"}, {"5", "-1", "-5", "0"}};
        for (String[] row : rows) {
            gives("(div (car x) (car (cdr x)))", "(" + row[0] + " " + row[1] + ")", row[2]);
            gives("(rem (car x) (car (cdr x)))", "(" + row[0] + " " + row[1] + ")", row[3]);
        }
    }

    private static void leastInt() {
        says("(the least int by -1: itself, and 0)");
        gives("(div " + LEAST + " x)", "-1", "-2147483648");
        gives("(rem " + LEAST + " x)", "-1", "0");
        gives("(div " + LEAST + " x)", "1", "-2147483648");
        gives("(div (add 1 " + LEAST + ") x)", "-1", "2147483647");
    }

    private static void uncounted() {
        says("UNCOUNTED, if a or b is no number");
        for (String op : new String[] {"add", "sub", "mul", "div", "rem", "leq"}) {
            for (String argument : new String[] {"a", "nil", "t", "f", "()", "(1)"}) {
                ends("(lambda (x) (" + op + " x 1))", argument, UNCOUNTED);
                ends("(lambda (x) (" + op + " 1 x))", argument, UNCOUNTED);
            }
            ends("(lambda (x) (" + op + " x x))", "a", UNCOUNTED);
            ends("(lambda (x) (" + op + " (lambda () 1) 1))", "1", UNCOUNTED);
            ends("(lambda (x) (" + op + " 1 (lambda () 1)))", "1", UNCOUNTED);
        }
    }

    private static void zero() {
        says("UNCOUNTED, if a or b is no number, else ZERO, if b is 0 for DIV or REM");
        for (String op : new String[] {"div", "rem"}) {
            ends("(lambda (x) (" + op + " 1 x))", "0", ZERO);
            ends("(lambda (x) (" + op + " 0 x))", "0", ZERO);
            ends("(lambda (x) (" + op + " x 1))", "0", DONE);
            ends("(lambda (x) (" + op + " x 0))", "a", UNCOUNTED);
            ends("(lambda (x) (" + op + " x 0))", "()", UNCOUNTED);
            ends("(lambda (x) (" + op + " x 0))", "(1)", UNCOUNTED);
        }
        for (String op : new String[] {"add", "sub", "mul", "leq", "eq"}) {
            ends("(lambda (x) (" + op + " 1 x))", "0", DONE);
        }
        due("DIV costs all the same", finished("(lambda (x) (div 1 x))", "0").cycles(), 3 + 6 + 2 + 3 + 8);
        due("REM costs all the same", finished("(lambda (x) (rem 1 x))", "0").cycles(), 3 + 6 + 2 + 3 + 8);
    }

    private static void leq() {
        says("(t . s) if a is at most b, else (f . s); UNCOUNTED likewise");
        gives("(leq x 3)", "2", "t");
        gives("(leq x 3)", "3", "t");
        gives("(leq x 3)", "4", "f");
        gives("(leq x 0)", "-1", "t");
        // A difference would wrap.
        gives("(leq " + LEAST + " x)", "1", "t");
        gives("(leq x " + LEAST + ")", "1", "f");
        gives("(leq " + LEAST + " " + GREATEST + ")", "1", "t");
        gives("(leq " + GREATEST + " " + LEAST + ")", "1", "f");
    }

    private static void eq() {
        says("(t . s) if a and b are both numbers or both names and equal, else (f . s)");
        gives("(eq x 3)", "3", "t");
        gives("(eq x 3)", "4", "f");
        gives("(eq x -3)", "3", "f");
        gives("(eq x 7)", "007", "t");
        gives("(eq x 0)", "-0", "t");
        gives("(eq 999999999 x)", "999999999", "t");
        gives("(eq x (quote abc))", "abc", "t");
        gives("(eq x (quote abc))", "abd", "f");
        gives("(eq x (quote abc))", "ab", "f");
        gives("(eq x (quote abc))", "abcabc", "f");
        gives("(eq x (quote nil))", "()", "t");
        gives("(eq x (quote nil))", "f", "f");
        // Neither error nor t for other kinds, the same pair or closure too.
        gives("(eq x x)", "(1)", "f");
        gives("(eq x (quote (1)))", "(1)", "f");
        gives("(let (eq g g) (g (lambda () 1)))", "1", "f");
        gives("(eq x (quote nil))", "(1)", "f");
        gives("(eq (lambda () 1) x)", "1", "f");
        for (String name : new String[] {"a", "t", "f", "nil"}) {
            for (String number : new String[] {"0", "1", "2", "6", "20", "97", "14636"}) {
                gives("(eq x " + number + ")", name, "f");
                gives("(eq " + number + " x)", name, "f");
            }
        }
    }

    private static void select() {
        says("the next address is p unless a is t");
        gives("(if x 1 2)", "t", "1");
        for (String argument : new String[] {"f", "nil", "()", "0", "1", "a", "tt", "(t)"}) {
            gives("(if x 1 2)", argument, "2");
        }
        gives("(if (lambda () 1) 1 2)", "1", "2");
        gives("(if (quote t) 1 2)", "1", "1");
        says("S becomes s, D becomes a mark of q and D");
        CountedProcessor x = started(60, "(lambda (x) (if x 1 2))", "t", MOST_FUEL);
        x.run(3);
        due("S ahead", x.depth(0), 1);
        due("D ahead", x.depth(2), 1);
        x.run(1);
        due("S behind", x.depth(0), 0);
        due("D behind", x.depth(2), 2);
        due("address", x.address(), 3);
    }

    private static void join() {
        says("JOIN, 2, 0: D is a mark: the next address is its address, D becomes its cell");
        CountedProcessor x = started(60, "(lambda (x) (if x 1 2))", "f", MOST_FUEL);
        x.run(4);
        due("b", x.address(), 5);
        x.run(1);
        due("the second JOIN", x.address(), 6);
        x.run(1);
        due("behind it", x.address(), 7);
        due("D", x.depth(2), 1);
        gives("(if x (if x 1 2) 3)", "t", "1");
        gives("(add (if x 1 2) (if x 10 20))", "f", "22");
    }

    private static void apply() {
        says("UNCALLABLE, if c is no closure");
        for (String argument : new String[] {"1", "0", "a", "nil", "t", "car", "(1)", "()"}) {
            ends("(lambda (x) (x))", argument, UNCALLABLE);
            ends("(lambda (x) (x 1 2))", argument, UNCALLABLE);
        }
        // The last AP of a program calls what its expression gives.
        ends("5", "1", UNCALLABLE);
        ends("(quote (lambda (x) x))", "1", UNCALLABLE);
        ends("(letrec 1)", "1", UNCALLABLE);
        ends("((lambda (x) x) 1)", "1", UNCALLABLE);
        ends("((lambda (x) x) (lambda () 1))", "1", DONE);
        CountedProcessor x = finished("5", "1");
        due("it costs all the same", x.cycles(), 2 + 6);
        due("S is as it was", x.depth(0), 2);
        due("E is as it was", x.depth(1), 0);
        due("D is as it was", x.depth(2), 0);
        due("no cell is used by it", x.used(), 3 + 1 + 1 + 2 + 1);
    }

    private static void applyWithin() {
        says("D becomes (s . (E . mark of the next address and D)), E becomes (v . the closure's cell), S nil, "
                + "the next address is the closure's");
        CountedProcessor x = started(60, "(lambda (x) (add 1 ((lambda (y z) y) x 2)))", "5", MOST_FUEL);
        // LDF, AP, LDC 1, LDC 0, LDC 2, CONS, LD, CONS, LDF: the closure, the list and 1 lie on S.
        x.run(9);
        due("S ahead", x.depth(0), 3);
        x.run(1);
        due("S behind", x.depth(0), 0);
        due("E behind", x.depth(1), 2);
        due("D behind", x.depth(2), 2);
        // LD, RTN
        x.run(2);
        due("S given back", x.depth(0), 2);
        due("E given back", x.depth(1), 1);
        due("D given back", x.depth(2), 1);
        x.run(1000);
        due("the result", result(x), "6");
    }

    private static void applyRecursively() {
        says("RAP, 7, 3: of (c . (v . s)): D becomes (s . (the tail of E . mark of the next address and D)), "
                + "the head of the closure's cell becomes v, E becomes that cell, S nil, the next address is the closure's");
        CountedProcessor x = started(60, "(lambda (x) (add 1 (letrec (f x) (f (lambda (y) y)))))", "5", MOST_FUEL);
        // LDF, AP, LDC 1, DUM, LDC 0, LDF, CONS, LDF: the closure, the list and 1 lie on S.
        x.run(8);
        due("S ahead", x.depth(0), 3);
        due("E ahead, with the frame of DUM", x.depth(1), 2);
        due("RAP is the next", opOf(x.code(x.address())), word("RAP"));
        x.run(1);
        due("S behind", x.depth(0), 0);
        due("E behind", x.depth(1), 2);
        due("D behind", x.depth(2), 2);
        due("address", x.address(), 9);
        x.run(1000);
        due("the result", result(x), "6");
        // The tail of E is given back, so that x is found behind the letrec.
        gives("(add (letrec (f) (f (lambda () 1))) x)", "5", "6");
        gives("(cons x (letrec (f x) (f (lambda (y) (cons y x)))))", "5", "(5 5 . 5)");
    }

    private static void giveBack() {
        says("S becomes (v . s1), E becomes e1, the next address and D are those of the mark m");
        CountedProcessor x = started(60, "(lambda (x) x)", "5", MOST_FUEL);
        x.run(3);
        due("RTN", x.address(), 2);
        x.run(1);
        due("S", x.depth(0), 1);
        due("E", x.depth(1), 0);
        due("D", x.depth(2), 0);
        due("the address behind AP", x.address(), 4);
        gives("(sub 10 ((lambda (y) (add y x)) 1))", "5", "4");
    }

    private static void stop() {
        says("STOP, 1, 0: DONE; the RESULT is the head of S");
        CountedProcessor x = started(60, "(lambda (x) x)", "5", MOST_FUEL);
        x.run(4);
        int used = x.used();
        due("running", x.status(), RUNNING);
        due("STOP", x.run(1), 1);
        due("done", x.status(), DONE);
        due("S is as it was", x.depth(0), 1);
        due("used is as it was", x.used(), used);
        due("cycles", x.cycles(), 3 + 6 + 3 + 4 + 1);
        due("the result", result(x), "5");
    }
}
