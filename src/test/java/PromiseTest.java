/** Goes through the promises of the document, one method each, with answers worked out by hand. */
public final class PromiseTest extends Check {
    private static final String FIBONACCI =
            "(letrec (lambda (n) (f n)) (f (lambda (n) (if (leq n 1) n (add (f (sub n 1)) (f (sub n 2)))))))";
    private static final String COUNT =
            "(letrec (lambda (n) (f n)) (f (lambda (n) (if (eq n 0) (quote (a)) (cons n (f (sub n 1)))))))";

    public static void main(String[] args) {
        aNewObject();
        put();
        erase();
        compile();
        compileErrors();
        reading();
        code();
        codeOfEveryForm();
        codeOfNames();
        codeOfTheLongestText();
        begin();
        run();
        runOfEveryInstruction();
        runsThatFail();
        status();
        cycles();
        address();
        depth();
        live();
        used();
        collections();
        printed();
        printedValues();
        character();
        end();
    }

    private static String row(int parts) {
        return "(" + "1 ".repeat(parts) + ")";
    }

    private static void aNewObject() {
        CountedProcessor x = new CountedProcessor(100);
        due("no program", x.code(0), -1);
        due("no run", x.status(), NO_RUN);
        due("no text", x.compile(), -1);
        type(x, "1");
        due("no program to begin", x.begin(100), -1);
        due("the text stays", x.compile(), 3);
        int[][] sizes = {{-5, 24}, {0, 24}, {23, 24}, {24, 24}, {25, 25}, {199, 199}, {200, 200}, {201, 200},
            {Integer.MAX_VALUE, 200}, {Integer.MIN_VALUE, 24}};
        for (int[] size : sizes) {
            cellsAre(size[0], size[1]);
        }
    }

    /** An argument of all cells but the names' three and the two new pairs fits; one more does not. */
    private static void cellsAre(int asked, int cells) {
        CountedProcessor x = new CountedProcessor(asked);
        compiled(x, "(quote nil)");
        due("cells " + asked + " hold", begun(x, argumentOf(cells - 5), 10), cells);
        due("cells " + asked + " do not hold", begun(x, argumentOf(cells - 4), 10), -3);
    }

    private static void put() {
        CountedProcessor fresh = new CountedProcessor(24);
        for (int c = -3; c < 190; c++) {
            boolean isOne = c == 32 || c == 40 || c == 41 || c == 45 || c >= 48 && c <= 57 || c >= 97 && c <= 122;
            due("put(" + c + ")", fresh.put(c), isOne);
        }
        due("put far above", fresh.put(65536 + 'a'), false);
        due("put the least", fresh.put(Integer.MIN_VALUE), false);
        CountedProcessor x = new CountedProcessor(24);
        for (int k = 0; k < 199; k++) {
            due("put a blank", x.put(' '), true);
        }
        due("put none of those", x.put('A'), false);
        due("put the 200th", x.put('7'), true);
        due("put the 201st", x.put('7'), false);
        due("the text is 199 blanks and 7", x.compile(), 3);
        begun(x, "(1 2)", 10);
        due("put leaves program", x.put('5') && x.code(2) == 20, true);
        due("put leaves run", x.status(), RUNNING);
    }

    private static void erase() {
        CountedProcessor x = new CountedProcessor(24);
        type(x, "(((");
        x.erase();
        due("nothing is left", x.compile(), -1);
        type(x, "5");
        due("only what came behind", x.compile(), 3);
        begun(x, "7", 10);
        x.run(1);
        type(x, "abc");
        x.erase();
        due("program stays", x.code(0), 1 + 32);
        due("run stays", x.status(), RUNNING);
        due("run stays where it was", x.address(), 1);
        for (int k = 0; k < 200; k++) {
            x.put('(');
        }
        x.erase();
        due("there is room again", x.put('1'), true);
    }

    private static void compile() {
        CountedProcessor x = new CountedProcessor(24);
        due("a number", compiled(x, "5"), 3);
        due("the text is empty then", x.compile(), -1);
        due("the program stays", x.code(1), 3);
        begun(x, "1", 100);
        due("there is a run", x.status(), RUNNING);
        due("unreadable", compiled(x, "(5"), -1);
        due("the run stays", x.status(), RUNNING);
        due("the text stays", x.put(')') ? x.compile() : 0, 5);
        due("there is no run any more", x.status(), NO_RUN);
        begun(x, "1", 100);
        due("refused by form", compiled(x, "(if)"), -2);
        due("the run stays behind -2", x.run(1), 1);
        due("the code stays behind -2", x.code(4), 20);
        due("refused by name", compiled(x, "(add 3 z)"), -3);
        due("the run stays behind -3", x.run(1), 1);
        due("the text stays behind -3", x.compile(), -3);
        due("the constants stay behind -3", begun(x, "1", 100), 7);
    }

    private static void compileErrors() {
        String[] badForms = {"()", "(quote)", "(quote 1 2)", "(car)", "(cdr 1 2)", "(atom)", "(add 1)",
            "(sub 1 2 3)", "(mul)", "(div 1)", "(rem 1 2 3)", "(eq 1)", "(leq 1)", "(cons 1)", "(cons 1 2 3)",
            "(if 1 2)", "(if 1 2 3 4)", "(lambda)", "(lambda (x))", "(lambda x x)", "(lambda 1 1)",
            "(lambda (1) 1)", "(lambda ((x)) 1)", "(lambda (x) 1 2)", "(let)", "(letrec)", "(let 1 x)",
            "(let 1 2)", "(let 1 ())", "(let 1 (x))", "(let 1 (x 1 2))", "(let 1 (1 2))", "(let 1 ((x) 2))",
            "(letrec 1 (x 1) 2)", "(letrec 1 (x))", "(lambda (car) (car))", "(add () 1)", "(())", "(1 ())",
            "(lambda (x) ())", "(let 1 (x ()))", "(letrec () (x 1))", "(if 1 2 ())"};
        for (String text : badForms) {
            due(text, compiled(text), -2);
        }
        String[] unbound = {"x", "nil", "t", "f", "car", "lambda", "(x)", "(x 1)", "(1 x)", "(add 1 x)",
            "(lambda (x) y)", "(let x (y 1))", "(let 1 (x x))", "(let x (y 1) (z x))", "(letrec y (x x))",
            "(add (lambda (x) x) x)", "(cons 1 (let x (y 1)))", "(quotes 1)"};
        for (String text : unbound) {
            due(text, compiled(text), -3);
        }
        String[][] firstCounts = {{"(add x ())", "-3"}, {"(add () x)", "-2"}, {"(cons x ())", "-2"},
            {"(cons () x)", "-3"}, {"(x ())", "-2"}, {"(() x)", "-3"}, {"(1 () x)", "-3"}, {"(1 x ())", "-2"},
            {"(if x () 1)", "-3"}, {"(if 1 () x)", "-2"}, {"(if 1 x ())", "-3"}, {"(let () (y x))", "-3"},
            {"(let x (y ()))", "-2"}, {"(let 1 (y x) (z ()))", "-2"}, {"(let 1 (y ()) (z x))", "-3"},
            {"(letrec () (y x))", "-3"}, {"(letrec x (y ()))", "-2"}, {"(add x 1 2)", "-2"},
            {"(let x (y x) (z))", "-2"}, {"(add (car x 1) y)", "-2"}, {"(lambda (x x 1) y)", "-2"}};
        for (String[] row : firstCounts) {
            due(row[0], compiled(row[0]), Integer.parseInt(row[1]));
        }
        String[] fine = {"(lambda () 1)", "(lambda (nil t f car) (add nil car))", "(let 1)", "(letrec 1)",
            "(let (car car) (car 1))", "(letrec x (x x))", "(1)", "((quote ()))", "(quote (if 1))",
            "(lambda (quote) quote)", "(lambda (x) (x))"};
        for (String text : fine) {
            due(text + " is taken", compiled(text) > 0, true);
        }
    }

    private static void reading() {
        String[] unreadable = {"", " ", "   ", "(", ")", "())", "(()", "1 2", "1a", "a1", "5-3", "()()", "() 1", "-",
            "- 3", "--3", "-a", "(-)", "(5-)", "(- 5)", "1234567890", "-1234567890", "0000000000", "abcdefg",
            "(abcdefg)", "(1 1234567890)", "(1))", "((1)", ")("};
        for (String text : unreadable) {
            CountedProcessor x = new CountedProcessor(200);
            due("[" + text + "] is not read", compiled(x, text), -1);
            compiled(x, "1");
            due("[" + text + "] is no argument", begun(x, text, 10), -2);
        }
        prints("(lambda (x) x)", "  ( 1a5-3b -7(c)d )  ", "(1 a 5 -3 b -7 (c) d)");
        prints("(lambda (x) x)", "(1a2b)", "(1 a 2 b)");
        prints("(lambda (x) x)", "(1-2-3a-4)", "(1 -2 -3 a -4)");
        prints("(lambda (x) x)", "(007 000000000 -0 -000000012)", "(7 0 0 -12)");
        prints("(lambda (x) x)", "(999999999 -999999999)", "(999999999 -999999999)");
        prints("(lambda (x) x)", "(abcdef)", "(abcdef)");
        prints("(lambda (x) x)", "( zzzzzz az )", "(zzzzzz az)");
        prints("(lambda(x)x)", "()", "nil");
        prints("(lambda(x)x)", "(() nil (nil))", "(nil nil (nil))");
        String twelve = "(".repeat(12) + ")".repeat(12);
        String thirteen = "(".repeat(13) + ")".repeat(13);
        CountedProcessor x = new CountedProcessor(200);
        compiled(x, "1");
        due("twelve deep", begun(x, twelve, 10), 3 + 1 + 2 + 11);
        due("thirteen deep", begun(x, thirteen, 10), -2);
        due("thirteen deep behind", begun(x, "(1 " + twelve + ")", 10), -2);
        due("twelve deep twice", begun(x, "(" + twelve.substring(1, 23) + twelve.substring(1, 23) + ")", 10),
                3 + 1 + 2 + 2 * 11);
        due("twelve deep as a program", compiled(x, "(quote " + twelve.substring(1, 23) + ")"), 3);
        due("thirteen deep as a program", compiled(x, "(quote " + twelve + ")"), -1);
        due("a call twelve deep", compiled(x, "(".repeat(12) + "1" + ")".repeat(12)), 1 + 12 * 2 + 2);
        due("a call thirteen deep", compiled(x, "(".repeat(13) + "1" + ")".repeat(13)), -1);
    }

    private static void code() {
        CountedProcessor x = new CountedProcessor(24);
        due("code without a program", x.code(0), -1);
        due("code without a program", x.code(-1), -1);
        compiled(x, "(lambda (x) (add x 1))");
        due("LDF 5", x.code(0), 162);
        due("code far behind", x.code(Integer.MAX_VALUE), -1);
        due("code far before", x.code(Integer.MIN_VALUE), -1);
        compiled(x, "(lambda (x) (add x y))");
        due("a refused program is none", x.code(2), 1 + 32);
        compiled(x, "7");
        due("a new program", x.code(0), 33);
        due("a new program is shorter", x.code(3), -1);
        compiled(x, "(if 1 2 3)");
        due("SEL 4 6", x.code(1), 7 + 32 * 4 + 16384 * 6);
    }

    private static void codeOfEveryForm() {
        codeIs("7", "LDC 1");
        codeIs("(quote (a b))", "LDC 1");
        codeIs("(quote nil)", "LDC 1");
        codeIs("(cons (quote nil) (cons (quote t) (quote f)))", "LDC 1, LDC 2, CONS, LDC 3, CONS");
        codeIs("(car 1)", "LDC 1, CAR");
        codeIs("(cdr 1)", "LDC 1, CDR");
        codeIs("(atom 1)", "LDC 1, ATOM");
        codeIs("(add 1 2)", "LDC 1, LDC 2, ADD");
        codeIs("(sub 1 2)", "LDC 1, LDC 2, SUB");
        codeIs("(mul 1 2)", "LDC 1, LDC 2, MUL");
        codeIs("(div 1 2)", "LDC 1, LDC 2, DIV");
        codeIs("(rem 1 2)", "LDC 1, LDC 2, REM");
        codeIs("(eq 1 2)", "LDC 1, LDC 2, EQ");
        codeIs("(leq 1 2)", "LDC 1, LDC 2, LEQ");
        codeIs("(cons (car 1) (cdr 2))", "LDC 1, CDR, LDC 2, CAR, CONS");
        codeIs("(if (atom 1) 2 3)", "LDC 1, ATOM, SEL 5 7, LDC 2, JOIN, LDC 3, JOIN");
        codeIs("(lambda (x) x)", "LDF 3, LD 0 0, RTN");
        codeIs("(lambda () 1)", "LDF 3, LDC 1, RTN");
        codeIs("(1)", "LDC 0, LDC 1, AP");
        codeIs("((lambda (x y) y) 4 5)",
                "LDC 0, LDC 1, CONS, LDC 2, CONS, LDF 8, LD 0 1, RTN, AP");
        codeIs("(let (add x y) (x 1) (y (car 2)))",
                "LDC 0, LDC 1, CAR, CONS, LDC 2, CONS, LDF 11, LD 0 0, LD 0 1, ADD, RTN, AP");
        codeIs("(let 1)", "LDC 0, LDF 4, LDC 1, RTN, AP");
        codeIs("(letrec (x) (x y) (y x))",
                "DUM, LDC 0, LD 0 0, CONS, LD 0 1, CONS, LDF 11, LDC 0, LD 0 0, AP, RTN, RAP");
        codeIs("(letrec 1)", "DUM, LDC 0, LDF 5, LDC 1, RTN, RAP");
        codeIs("(if 1 (if 2 3 4) 5)",
                "LDC 1, SEL 9 11, LDC 2, SEL 6 8, LDC 3, JOIN, LDC 4, JOIN, JOIN, LDC 5, JOIN");
    }

    private static void codeOfNames() {
        codeIs("(lambda (x y) (lambda (y z) (x y z)))",
                "LDF 11, LDF 10, LDC 0, LD 0 1, CONS, LD 0 0, CONS, LD 1 0, AP, RTN, RTN");
        codeIs("(lambda (a x x b x) (cons x b))", "LDF 5, LD 0 3, LD 0 1, CONS, RTN");
        codeIs("(lambda (x) (lambda () x))", "LDF 5, LDF 4, LD 1 0, RTN, RTN");
        codeIs("(lambda (car) (car car))", "LDF 4, LD 0 0, CAR, RTN");
        codeIs("(lambda (x) (let x (x x) (y x)))",
                "LDF 11, LDC 0, LD 0 0, CONS, LD 0 0, CONS, LDF 9, LD 0 0, RTN, AP, RTN");
        codeIs("(let (let (add a b) (b a)) (a 1))",
                "LDC 0, LDC 1, CONS, LDF 14, LDC 0, LD 0 0, CONS, LDF 12, LD 1 0, LD 0 0, ADD, RTN, AP, RTN, AP");
        codeIs("(lambda (if) (cons if 1))", "LDF 5, LDC 1, LD 0 0, CONS, RTN");
        codeIs("(lambda (x) (quote x))", "LDF 3, LDC 1, RTN");
        codeIs("(lambda (ab abc abcdef) (add abcdef ab))", "LDF 5, LD 0 2, LD 0 0, ADD, RTN");
    }

    /** 200 characters, 185 of them arguments: nearly as long as code can get. */
    private static void codeOfTheLongestText() {
        String text = "(lambda(x)(x " + "1x".repeat(92) + "1))";
        CountedProcessor x = new CountedProcessor(200);
        due("its length", text.length(), 200);
        due("its code", compiled(x, text), 1 + 1 + 185 * 2 + 2 + 1 + 2);
        due("LDF to its end", x.code(0), 2 + 32 * 375);
        due("its last constant", x.code(2 + 2 * 184), 1 + 32 * 93);
        due("its STOP", x.code(376), 20);
        due("its cells", begun(x, "1", 8000), 3 + 93 + 1 + 2);
        due("runs", x.run(1000) > 0, true);
        String names = "(lambda(" + "a b c d e f g h i j k l m n o p q r s u v w x y z ".repeat(3) + "t)t)";
        CountedProcessor y = new CountedProcessor(200);
        compiled(y, names);
        due("a far name", y.code(1), 16384 * 75);
        String quoted = "(quote(" + "1a".repeat(95) + "))";
        due("a long constant", compiled(y, quoted), 3);
        due("a constant that is too long", begun(y, "1", 10), -3);
    }

    private static void begin() {
        CountedProcessor x = new CountedProcessor(24);
        type(x, "1");
        due("no program", x.begin(10), -1);
        compiled(x, "(lambda (x) (cons 1 (quote (a nil t f (2)))))");
        due("names 3, a number 1, a list 5 and a 1 and (2) 2, argument 1, pairs 2", begun(x, "5", 1), 15);
        x.run(1);
        due("the text is empty then", x.begin(10), -2);
        due("the run stays", x.address(), 5);
        type(x, "t");
        due("fuel 0", x.begin(0), -1);
        due("fuel below 0", x.begin(-1), -1);
        due("fuel 8001", x.begin(8001), -1);
        due("fuel the greatest", x.begin(Integer.MAX_VALUE), -1);
        due("the run stays when refused", x.address(), 5);
        due("fuel 8000", x.begin(8000), 14);
        due("the run is a new one", x.address(), 0);
        due("no cycles yet", x.cycles(), 0);
        due("unreadable", begun(x, "(1", 8000), -2);
        due("fuel is looked at first", x.begin(0), -1);
        due("the text stays when refused", x.put(')') ? x.begin(1) : 0, 16);
        due("one cell fewer than all", begun(x, "(1 (2 3 nil)t)", 1), 14 + 6 + 3);
        due("all cells", begun(x, "(1 (2 3)t()nil)", 1), 14 + 7 + 3);
        x.run(1);
        due("one more than all", begun(x, "(1 (2 3)t()4)", 1), -3);
        due("the run stays when there is no room", x.status(), FULL);
        due("the text stays when there is no room", x.begin(1), -3);
        CountedProcessor y = new CountedProcessor(24);
        compiled(y, "(quote nil)");
        due("nil takes no cell", begun(y, "nil", 1), 5);
        due("each name takes a cell", begun(y, "(a a a)", 1), 11);
        due("each number takes a cell", begun(y, "(1 1)", 1), 9);
        due("a list without parts is nil", begun(y, "(()())", 1), 7);
    }

    private static void run() {
        CountedProcessor x = new CountedProcessor(60);
        due("no program", x.run(1), -1);
        compiled(x, "(lambda (x) (add x 1))");
        due("no run", x.run(1), -1);
        begun(x, "41", 1000);
        due("n of 0", x.run(0), -1);
        due("n of -1", x.run(-1), -1);
        due("n of 1001", x.run(1001), -1);
        due("nothing was done", x.cycles(), 0);
        due("one", x.run(1), 1);
        due("two", x.run(2), 2);
        due("STOP counts", x.run(1000), 4);
        due("over", x.run(1000), 0);
        due("over, and n of 0", x.run(0), -1);
        due("over, and n of 1001", x.run(1001), -1);
        compiled(x, "(quote x)");
        due("no run any more", x.run(1), -1);
        begun(x, "1", 1000);
        due("an error counts", x.run(1000), 2);
        due("over by an error", x.run(1), 0);
        begun(x, "1", 2);
        due("tired does not count", x.run(1000), 1);
        due("over, tired", x.run(1), 0);
        // Up to f of 1 or 0: 7 steps, 21 cycles; else 21 steps, 70 cycles, 31 cells and two more calls. f of 9 makes
        // 54 of these: more than 1000 steps. A call holds 9 cells at most, so that 9 calls and some 15 cells
        // around them leave 104 free: 15 collections of 296 cycles at most, and some 3300 cycles of steps.
        CountedProcessor y = new CountedProcessor(200);
        compiled(y, FIBONACCI);
        begun(y, "9", 8000);
        due("a thousand", y.run(1000), 1000);
        due("still running", y.status(), RUNNING);
    }

    private static void runOfEveryInstruction() {
        prints("(lambda (x) (sub x 10))", "3", "-7");
        prints("(lambda (x) (mul x x))", "-9", "81");
        prints("(lambda (x) (div x 2))", "-7", "-3");
        prints("(lambda (x) (div 7 x))", "-2", "-3");
        prints("(lambda (x) (rem x 2))", "-7", "-1");
        prints("(lambda (x) (rem 7 x))", "-2", "1");
        prints("(lambda (x) (add (mul x 4) x))", "500000000", "-1794967296");
        prints("(lambda (x) (mul x x))", "999999999", "808348673");
        String least = "(let (OP m -1) (m (mul 65536 32768)))";
        prints("(lambda (x) " + least.replace("OP", "div") + ")", "1", "-2147483648");
        prints("(lambda (x) " + least.replace("OP", "rem") + ")", "1", "0");
        prints("(lambda (x) " + least.replace("OP", "add") + ")", "1", "2147483647");
        prints("(lambda (x) (leq x 3))", "2", "t");
        prints("(lambda (x) (leq x 3))", "3", "t");
        prints("(lambda (x) (leq x 3))", "4", "f");
        prints("(lambda (x) (eq x 3))", "3", "t");
        prints("(lambda (x) (eq x 3))", "-3", "f");
        prints("(lambda (x) (eq x (quote abc)))", "abc", "t");
        prints("(lambda (x) (eq x (quote abc)))", "abd", "f");
        prints("(lambda (x) (eq x (quote ())))", "nil", "t");
        prints("(lambda (x) (eq x 1))", "a", "f");
        prints("(lambda (x) (eq 1 x))", "a", "f");
        prints("(lambda (x) (eq x x))", "(1)", "f");
        prints("(lambda (x) (eq (lambda () 1) (lambda () 1)))", "1", "f");
        prints("(lambda (x) (let (eq g g) (g (lambda () 1))))", "1", "f");
        prints("(lambda (x) (atom x))", "5", "t");
        prints("(lambda (x) (atom x))", "abc", "t");
        prints("(lambda (x) (atom x))", "()", "t");
        prints("(lambda (x) (atom x))", "(1)", "f");
        prints("(lambda (x) (atom (lambda () 1)))", "1", "f");
        prints("(lambda (x) (car x))", "((1) 2)", "(1)");
        prints("(lambda (x) (cdr x))", "((1) 2)", "(2)");
        prints("(lambda (x) (cons x (cons 1 (quote nil))))", "(2)", "((2) 1)");
        prints("(lambda (x) (if x 1 2))", "t", "1");
        prints("(lambda (x) (if x 1 2))", "f", "2");
        prints("(lambda (x) (if x 1 2))", "nil", "2");
        prints("(lambda (x) (if x 1 2))", "1", "2");
        prints("(lambda (x) (if x 1 2))", "(t)", "2");
        prints("(lambda (x) (let (sub a b) (a x) (b 1)))", "5", "4");
        prints("(lambda (x) ((lambda (y z) (cons y (cons x z))) 1 2))", "5", "(1 5 . 2)");
        prints("(lambda (x) (let (let (cons a b) (b a)) (a x)))", "5", "(5 . 5)");
        prints(COUNT, "3", "(3 2 1 a)");
        prints("(lambda (x) (cons x (let 1)))", "5", "(5 . 1)");
        prints("(lambda (x) (cons x (letrec 1)))", "5", "(5 . 1)");
        prints("(lambda (x) (cons x (letrec (f x) (f (lambda (y) (cons y x))))))", "5", "(5 5 . 5)");
        prints("(letrec (lambda (n) (e n)) (e (lambda (n) (if (eq n 0) (quote yes) (o (sub n 1)))))"
                + "(o (lambda (n) (if (eq n 0) (quote no) (e (sub n 1))))))", "3", "no");
        prints("(let (lambda (x) (add x y)) (y 10))", "5", "15");
        prints("((lambda (y) (lambda (x) (add x y))) 20)", "5", "25");
    }

    private static void runsThatFail() {
        ends("(quote x)", "1", UNCALLABLE);
        ends("5", "1", UNCALLABLE);
        ends("(lambda (x) (x))", "(1)", UNCALLABLE);
        ends("(lambda (x) (x 1))", "nil", UNCALLABLE);
        ends("(lambda (x) (car x))", "nil", UNPAIRED);
        ends("(lambda (x) (cdr x))", "5", UNPAIRED);
        ends("(lambda (x) (car (lambda () 1)))", "5", UNPAIRED);
        ends("(lambda (x y) y)", "5", SHORT);
        ends("(lambda (x) ((lambda (y) y)))", "5", SHORT);
        ends("(lambda (x) ((lambda (y z) z) 1))", "5", SHORT);
        ends("(lambda (x) ((lambda () x) 1 2))", "5", DONE);
        ends("(letrec x (x x))", "5", SHORT);
        ends("(letrec x (x y) (y 1))", "5", SHORT);
        ends("(lambda (x) (add x 1))", "a", UNCOUNTED);
        ends("(lambda (x) (sub 1 x))", "(1)", UNCOUNTED);
        ends("(lambda (x) (mul x 0))", "nil", UNCOUNTED);
        ends("(lambda (x) (leq x 0))", "a", UNCOUNTED);
        ends("(lambda (x) (leq 0 x))", "a", UNCOUNTED);
        ends("(lambda (x) (div x 0))", "a", UNCOUNTED);
        ends("(lambda (x) (rem x (quote a)))", "0", UNCOUNTED);
        ends("(lambda (x) (div 1 x))", "0", ZERO);
        ends("(lambda (x) (rem 1 x))", "0", ZERO);
        ends("(lambda (x) (div x x))", "0", ZERO);
        ends("(lambda (x) (mul x x))", "0", DONE);
        CountedProcessor x = finished("(lambda (x) (add 1 (car x)))", "5");
        due("cycles of an error: LDF AP LDC LD CAR", x.cycles(), 3 + 6 + 2 + 3 + 2);
        due("nothing else is changed: address", x.address(), 3);
        due("nothing else is changed: S", x.depth(0), 2);
        due("nothing else is changed: E", x.depth(1), 1);
        due("nothing else is changed: D", x.depth(2), 1);
        due("nothing else is changed: used", x.used(), 7 + 2 + 4 + 1 + 1);
        CountedProcessor y = finished("(lambda (x y z) z)", "5");
        due("SHORT costs the way", y.cycles(), 3 + 6 + 3 + 2);
    }

    private static void status() {
        CountedProcessor x = new CountedProcessor(24);
        due("new", x.status(), NO_RUN);
        compiled(x, "(lambda (x) x)");
        due("compiled", x.status(), NO_RUN);
        begun(x, "1", 9);
        due("begun", x.status(), RUNNING);
        x.run(2);
        due("its fuel is spent", x.cycles(), 9);
        due("but it is looked at in a step alone", x.status(), RUNNING);
        x.run(1);
        due("tired", x.status(), TIRED);
        begun(x, "1", 8000);
        x.run(4);
        due("before STOP", x.status(), RUNNING);
        x.run(1);
        due("done", x.status(), DONE);
        compiled(x, "(lambda (x) (cons x (cons x (cons x (cons x (quote (a b c d e)))))))");
        begun(x, "1", 8000);
        x.run(1000);
        due("full", x.status(), FULL);
        compiled(x, "1");
        due("no run since", x.status(), NO_RUN);
    }

    private static void cycles() {
        CountedProcessor x = new CountedProcessor(24);
        due("no run", x.cycles(), -1);
        compiled(x, "(lambda (x) x)");
        due("no run yet", x.cycles(), -1);
        begun(x, "1", 9);
        int[] steps = {3, 9, 9, 9};
        for (int spent : steps) {
            x.run(1);
            due("spent", x.cycles(), spent);
        }
        String[][] costs = {{"1", "2"}, {"(quote a)", "2"}, {"x", "3"}, {"(atom 1)", "4"}, {"(car x)", "5"},
            {"(cdr x)", "5"}, {"(add 1 2)", "8"}, {"(sub 1 2)", "8"}, {"(mul 1 2)", "10"}, {"(div 1 2)", "12"},
            {"(rem 1 2)", "12"}, {"(leq 1 2)", "8"}, {"(eq 1 2)", "7"}, {"(cons 1 2)", "7"},
            {"(lambda () 1)", "3"}, {"(if 1 2 3)", "9"}, {"(if (quote t) 2 3)", "9"},
            {"((lambda () 1))", "17"}, {"(let 1)", "17"}, {"(letrec 1)", "20"}, {"(let x (y 1))", "24"},
            {"(let y (z 1) (y 2))", "29"}};
        for (String[] row : costs) {
            String program = "(lambda (x) " + row[0] + ")";
            // LDF 3, AP 6, RTN 4 and STOP 1 stand around each of them.
            due(program, finished(program, "(1 2)").cycles(), 14 + Integer.parseInt(row[1]));
        }
        CountedProcessor y = new CountedProcessor(24);
        compiled(y, "1");
        due("no run since", y.cycles(), -1);
    }

    private static void address() {
        CountedProcessor x = new CountedProcessor(24);
        due("no run", x.address(), -1);
        compiled(x, "(lambda (x) (if x 1 (car 2)))");
        due("no run yet", x.address(), -1);
        begun(x, "t", 8000);
        int[] yes = {0, 9, 1, 2, 3, 4, 8, 10, 10};
        for (int at : yes) {
            due("address", x.address(), at);
            x.run(1);
        }
        due("STOP is the last", x.address(), 10);
        begun(x, "f", 8000);
        int[] no = {0, 9, 1, 2, 5, 6, 6};
        for (int at : no) {
            due("address", x.address(), at);
            x.run(1);
        }
        due("CAR was the last to be done", x.address() * 10 + x.status(), 60 + UNPAIRED);
        begun(x, "t", 9);
        x.run(1000);
        due("LD was not to be done", x.address(), 1);
        compiled(x, "1");
        due("no run since", x.address(), -1);
    }

    private static void depth() {
        CountedProcessor x = new CountedProcessor(200);
        due("no run", x.depth(0), -1);
        compiled(x, "(lambda (x) (let (if (atom y) (cons 1 y) 2) (z 1) (y 2)))");
        due("no run yet", x.depth(2), -1);
        begun(x, "5", 8000);
        for (int register : new int[] {-1, 3, 4, Integer.MIN_VALUE, Integer.MAX_VALUE}) {
            due("no such register", x.depth(register), -1);
        }
        // LDF 20; LDC 0, LDC 1, CONS, LDC 2, CONS, LDF 18, LD, ATOM, SEL 15 17, LD, LDC, CONS, JOIN, ..
        String[] rows = {"1 0 0", "2 0 0", "0 1 1", "1 1 1", "2 1 1", "1 1 1", "2 1 1", "1 1 1", "2 1 1", "0 2 2",
            "1 2 2", "1 2 2", "0 2 3", "1 2 3", "2 2 3", "1 2 3", "1 2 2", "1 1 1", "1 0 0", "1 0 0"};
        for (int k = 0; k < rows.length; k++) {
            due("depths at step " + k, x.depth(0) + " " + x.depth(1) + " " + x.depth(2), rows[k]);
            x.run(1);
        }
        due("done", x.status(), DONE);
        CountedProcessor y = new CountedProcessor(200);
        compiled(y, COUNT);
        begun(y, "2", 8000);
        due("DUM", y.run(1), 1);
        due("DUM makes E longer", y.depth(1), 1);
        due("LDC, LDF, CONS, LDF and RAP", y.run(5), 5);
        due("RAP leaves E as long as it is", y.depth(1), 1);
        compiled(y, "1");
        due("no run since", y.depth(1), -1);
    }

    private static void live() {
        CountedProcessor x = new CountedProcessor(60);
        due("no run", x.live(), -1);
        compiled(x, "(lambda (x) (add x 1))");
        due("no run yet", x.live(), -1);
        begun(x, "41", 1000);
        int[] lives = {7, 9, 10, 11, 12, 12, 6, 6, 6};
        // LDF +2, AP: S is nil, new 4, gone 2 pairs of S and the closure, LD +1, LDC +1, ADD +2 -2, RTN, STOP
        for (int k = 0; k < lives.length; k++) {
            due("live at step " + k, x.live(), lives[k]);
            x.run(1);
        }
        due("looking changes nothing", x.live() + x.used(), 6 + 18);
        compiled(x, "(lambda (x) (letrec (lambda () (f)) (f (lambda () (f)))))");
        begun(x, "41", 500);
        x.run(1000);
        // names 3, S 1, the result 1, the frame of f 1 with the list 1 of f 1, the frame of x 1 with 2
        due("a closure that holds itself", x.live(), 11);
        compiled(x, "1");
        due("no run since", x.live(), -1);
        CountedProcessor y = finished("(quote (a b))", "7");
        due("constants are live, so is all that S holds", y.live(), 3 + 4 + 3 + 1);
    }

    private static void used() {
        CountedProcessor x = new CountedProcessor(60);
        due("no run", x.used(), -1);
        compiled(x, "(lambda (x) (add x 1))");
        due("no run yet", x.used(), -1);
        begun(x, "41", 1000);
        int[] uses = {7, 9, 13, 14, 15, 17, 18, 18};
        for (int used : uses) {
            due("used", x.used(), used);
            x.run(1);
        }
        String[][] takes = {{"1", "1"}, {"x", "1"}, {"(atom 1)", "2"}, {"(car x)", "2"}, {"(cdr x)", "2"},
            {"(add 1 2)", "4"}, {"(sub 1 2)", "4"}, {"(mul 1 2)", "4"}, {"(div 1 2)", "4"}, {"(rem 1 2)", "4"},
            {"(leq 1 2)", "3"}, {"(eq 1 2)", "3"}, {"(cons 1 2)", "4"}, {"(lambda () 1)", "2"}, {"(if 1 2 3)", "3"},
            {"((lambda () 1))", "9"}, {"(let 1)", "9"}, {"(letrec 1)", "9"}};
        for (String[] row : takes) {
            CountedProcessor y = new CountedProcessor(200);
            compiled(y, "(lambda (x) " + row[0] + ")");
            int first = begun(y, "(1 2)", 8000);
            y.run(1000);
            // LDF 2, AP 4 and RTN 1 stand around each of them.
            due("cells of " + row[0], y.used() - first, 7 + Integer.parseInt(row[1]));
        }
        compiled(x, "1");
        due("no run since", x.used(), -1);
    }

    private static void collections() {
        CountedProcessor x = new CountedProcessor(24);
        due("no run", x.collections(), -1);
        compiled(x, "(lambda (x) (add (add x 1) (add x 1)))");
        due("no run yet", x.collections(), -1);
        // 8 used; LDF 10, AP 14, LD 15, LDC 16, ADD 18, LD 19, LDC 20, ADD 22, ADD 24, RTN: collection
        due("begins", begun(x, "5", 8000), 8);
        due("nine without", x.run(9), 9);
        due("all are used", x.used(), 24);
        due("none yet", x.collections(), 0);
        int before = x.cycles();
        int live = x.live();
        due("live: names 3, constants 2, E 3, D 3, S 2", live, 13);
        due("the instruction is done all the same", x.run(1), 1);
        due("one", x.collections(), 1);
        due("its cost", x.cycles(), before + 24 + live + 4);
        due("used are those live and the new one", x.used(), live + 1);
        x.run(1);
        due("done", x.status(), DONE);
        due("the result", result(x), "12");
        begun(x, "5", 8000);
        due("none in a new run", x.collections(), 0);
        tiredAndFull();
        compiled(x, "1");
        due("no run since", x.collections(), -1);
    }

    private static void tiredAndFull() {
        CountedProcessor x = new CountedProcessor(24);
        compiled(x, "(lambda (x) (add (add x 1) (add x 1)))");
        begun(x, "5", 8000);
        x.run(9);
        int fuel = x.cycles();
        begun(x, "5", fuel);
        due("tired before a collection", x.run(1000), 9);
        due("tired", x.status(), TIRED);
        due("no collection", x.collections(), 0);
        begun(x, "5", fuel + 1);
        due("not looked at behind a collection", x.run(10), 10);
        due("running", x.status(), RUNNING);
        x.run(1);
        due("tired then", x.status(), TIRED);
        compiled(x, "(lambda (x) (cons x (cons x (cons x (cons x (quote (a b c d e)))))))");
        due("begins", begun(x, "1", 8000), 16);
        // Of 24 cells 19 are live besides S: names 3, the constant 10, E 3, D 3.
        // LDF 18, AP 22, LDC 23, LD 24; CONS: live 21, used 23; LD 24; CONS: live 22, used 24;
        // LD: live 22, used 23; CONS at 7: live 23, and it takes 2.
        due("done", x.run(4), 4);
        due("done before it is full", x.run(1000), 4);
        due("full", x.status(), FULL);
        due("used are the live ones", x.used(), 23);
        due("live", x.live(), 23);
        due("the collection was made", x.collections(), 4);
        due("its cycles were spent", x.cycles(), 3 + 6 + 2 + 3 * 3 + 2 * 3 + 4 * 24 + 21 + 22 + 22 + 23);
        due("the instruction was not done", x.address(), 7);
    }

    private static void printed() {
        CountedProcessor x = new CountedProcessor(200);
        due("no run", x.printed(), -1);
        compiled(x, "(lambda (x) x)");
        begun(x, "(1 2)", 8000);
        due("running", x.printed(), -1);
        x.run(4);
        due("before STOP", x.printed(), -1);
        x.run(1);
        due("done", x.printed(), 5);
        begun(x, "123456", 8000);
        due("a new run", x.printed(), -1);
        x.run(100);
        due("its result", x.printed(), 6);
        begun(x, "1", 5);
        x.run(100);
        due("tired", x.printed(), -1);
        due("80 at most", finished("(lambda (x) x)", row(60)).printed(), 80);
        String just = "(" + "12 ".repeat(25) + "123)";
        due("just 80", finished("(lambda (x) x)", just).printed(), 80);
        prints("(lambda (x) x)", just, just.substring(0, 80));
        prints("(lambda (x) x)", "(" + "12 ".repeat(25) + "1234)", ("(" + "12 ".repeat(25) + "1234)").substring(0, 80));
        prints("(lambda (x) x)", "(" + "12 ".repeat(25) + "12)", "(" + "12 ".repeat(25) + "12)");
        compiled(x, "1");
        due("no run since", x.printed(), -1);
        ends("(quote x)", "1", UNCALLABLE);
        due("an error", finished("(quote x)", "1").printed(), -1);
    }

    private static void printedValues() {
        prints("(lambda (x) x)", "-5", "-5");
        prints("(lambda (x) x)", "0", "0");
        prints("(lambda (x) (mul 65536 32768))", "0", "-2147483648");
        prints("(lambda (x) x)", "nil", "nil");
        prints("(lambda (x) x)", "t", "t");
        prints("(lambda (x) x)", "abcxyz", "abcxyz");
        prints("(lambda (x) (lambda () 1))", "1", "fn");
        prints("(lambda (x) (cons 1 2))", "1", "(1 . 2)");
        prints("(lambda (x) (cons 1 (cons 2 (quote a))))", "1", "(1 2 . a)");
        prints("(lambda (x) (cons (lambda () 1) (lambda () 1)))", "1", "(fn . fn)");
        prints("(lambda (x) (cons (cons 1 2) x))", "(3)", "((1 . 2) 3)");
        prints("(lambda (x) x)", "(nil () t)", "(nil nil t)");
        prints("(lambda (x) x)", "((((((((1))))))))", "((((((((1))))))))");
        prints("(lambda (x) x)", "(((((((((1)))))))))", "((((((((#))))))))");
        prints("(lambda (x) x)", "(((((((1 (2)(3)) 4 (5 6)))))))", "(((((((1 (2) (3)) 4 (5 6)))))))");
        prints("(lambda (x) x)", "((((((((1 (2) 3 (4)))))))))", "((((((((1 # 3 #))))))))");
        prints("(lambda (x) (cons x x))", "(((((((1)))))))", "((((((((1))))))) ((((((1)))))))");
    }

    private static void character() {
        CountedProcessor x = new CountedProcessor(200);
        due("no run", x.character(0), -1);
        compiled(x, "(lambda (x) x)");
        begun(x, "(1 ab)", 8000);
        due("running", x.character(0), -1);
        x.run(1000);
        String want = "(1 ab)";
        for (int k = 0; k < want.length(); k++) {
            due("character " + k, x.character(k), want.charAt(k));
        }
        due("before", x.character(-1), -1);
        due("behind", x.character(6), -1);
        due("far before", x.character(Integer.MIN_VALUE), -1);
        due("far behind", x.character(Integer.MAX_VALUE), -1);
        begun(x, "7", 8000);
        due("of a run that is not done", x.character(0), -1);
        x.run(1000);
        due("of the new run", x.character(0), '7');
        due("none of the old run", x.character(1), -1);
        CountedProcessor y = finished("(lambda (x) x)", row(60));
        due("the last of 80", y.character(79), '1');
        due("the one before", y.character(78), ' ');
        due("cut", y.character(80), -1);
    }
}
