/** The edges of EXPRESSIONS and of THE CODE: each method is one sentence of the document. */
public final class ExpressionEdgesTest extends Check {
    private static final int FORM = -2;
    private static final int UNBOUND = -3;

    public static void main(String[] args) {
        formsWhetherBoundOrNot();
        justTheParts();
        partsOfLambda();
        partsOfLetAndLetrec();
        anyDatumAndAnyName();
        calls();
        listsWithoutParts();
        boundNames();
        unboundNames();
        framesWithoutNames();
        leastPlaceInFrame();
        leastFrame();
        numbersOfConstants();
        constantZero();
        argumentsFromTheLast();
        consFromTheLast();
        addressesOfIf();
        addressesOfFunctions();
        noNamesAtAll();
        endOfCode();
        lookedAtBeforeItsParts();
        firstErrorOfCallsAndForms();
        firstErrorOfBindings();
        longestCode();
        end();
    }

    private static void isRefused(String text, int why) {
        due(text, compiled(text), why);
    }

    private static void isTaken(String text) {
        due(text + " is taken", compiled(text) > 0, true);
    }

    private static void formsWhetherBoundOrNot() {
        says("A list whose first part is one of the names quote, car, cdr, atom, add, sub, mul, div, rem, eq, "
                + "leq, cons, if, lambda, let, letrec (whether bound or not) is that FORM");
        codeIs("(lambda (quote) (quote a))", "LDF 3, LDC 1, RTN");
        codeIs("(lambda (car) (car car))", "LDF 4, LD 0 0, CAR, RTN");
        codeIs("(lambda (cdr) (cdr cdr))", "LDF 4, LD 0 0, CDR, RTN");
        codeIs("(lambda (atom) (atom atom))", "LDF 4, LD 0 0, ATOM, RTN");
        for (String op : new String[] {"add", "sub", "mul", "div", "rem", "eq", "leq"}) {
            codeIs("(lambda (OP) (OP OP 1))".replace("OP", op),
                    "LDF 5, LD 0 0, LDC 1, " + op.toUpperCase() + ", RTN");
        }
        codeIs("(lambda (cons) (cons cons 1))", "LDF 5, LDC 1, LD 0 0, CONS, RTN");
        codeIs("(lambda (if) (if if 1 2))", "LDF 8, LD 0 0, SEL 5 7, LDC 1, JOIN, LDC 2, JOIN, RTN");
        codeIs("(lambda (lambda) (lambda () 1))", "LDF 5, LDF 4, LDC 1, RTN, RTN");
        codeIs("(lambda (let) (let 1))", "LDF 7, LDC 0, LDF 5, LDC 1, RTN, AP, RTN");
        codeIs("(lambda (letrec) (letrec 1))", "LDF 8, DUM, LDC 0, LDF 6, LDC 1, RTN, RAP, RTN");
        isRefused("(lambda (add) (add 1))", FORM);
        isRefused("(let (if) (if 1))", FORM);
        isRefused("(letrec (let) (let 1))", FORM);
        // Such a name alone is a name, and in another place than the first of a list too.
        isRefused("car", UNBOUND);
        codeIs("(lambda (car) (1 car))", "LDF 7, LDC 0, LD 0 0, CONS, LDC 1, AP, RTN");
        codeIs("(lambda (f car) (f car))", "LDF 7, LDC 0, LD 0 1, CONS, LD 0 0, AP, RTN");
    }

    private static void justTheParts() {
        says("and must have just the parts shown there");
        String[] one = {"quote", "car", "cdr", "atom"};
        String[] two = {"add", "sub", "mul", "div", "rem", "eq", "leq", "cons"};
        for (String form : one) {
            hasParts(form, 1);
        }
        for (String form : two) {
            hasParts(form, 2);
        }
        hasParts("if", 3);
    }

    private static void hasParts(String form, int parts) {
        for (int k = 0; k < 6; k++) {
            String text = "(" + form + " 1".repeat(k) + ")";
            if (k == parts) {
                isTaken(text);
            } else {
                isRefused(text, FORM);
            }
        }
    }

    private static void partsOfLambda() {
        says("(lambda (x ..) e), no or more x");
        isTaken("(lambda () 1)");
        isTaken("(lambda (a) 1)");
        isTaken("(lambda (a b c d e f) 1)");
        isRefused("(lambda)", FORM);
        isRefused("(lambda ())", FORM);
        isRefused("(lambda (a))", FORM);
        isRefused("(lambda (a) 1 2)", FORM);
        isRefused("(lambda () 1 2)", FORM);
        isRefused("(lambda a 1)", FORM);
        isRefused("(lambda 1 1)", FORM);
        isRefused("(lambda (1) 1)", FORM);
        isRefused("(lambda (a 1) a)", FORM);
        isRefused("(lambda (a ()) a)", FORM);
        isRefused("(lambda ((a)) a)", FORM);
    }

    private static void partsOfLetAndLetrec() {
        says("(let e (x a) ..), no or more (x a)");
        bindingsOf("let");
        says("(letrec e (x a) ..)");
        bindingsOf("letrec");
    }

    private static void bindingsOf(String form) {
        String[] taken = {"1", "1 (a 1)", "a (a 1)", "1 (a 1) (b 2) (c 3)", "1 (a (quote b))"};
        for (String parts : taken) {
            isTaken("(" + form + " " + parts + ")");
        }
        String[] refused = {"", "1 a", "1 2", "1 ()", "1 (a)", "1 (a 1 2)", "1 (1 2)", "1 (() 2)", "1 ((a) 2)",
            "1 (a 1) b", "1 (a 1) (b)", "1 (a) (b 1)", "1 (a 1) ()"};
        for (String parts : refused) {
            isRefused("(" + form + " " + parts + ")", FORM);
        }
    }

    private static void anyDatumAndAnyName() {
        says("(e, a, b, c are expressions, d is any datum, x any name)");
        for (String datum : new String[] {"()", "5", "a", "nil", "car", "(if)", "(lambda)", "(() ())", "(quote)"}) {
            codeIs("(quote " + datum + ")", "LDC 1");
        }
        for (String name : new String[] {"nil", "t", "f", "car", "lambda", "letrec", "quote", "z"}) {
            codeIs("(lambda (" + name + ") " + name + ")", "LDF 3, LD 0 0, RTN");
            codeIs("(let " + name + " (" + name + " 1))", "LDC 0, LDC 1, CONS, LDF 6, LD 0 0, RTN, AP");
        }
        prints("(lambda (t) (if t 1 2))", "f", "2");
        prints("(lambda (nil) (cons nil nil))", "7", "(7 . 7)");
    }

    private static void calls() {
        says("any other list with at least one part is a CALL of its first part with the rest");
        codeIs("(1)", "LDC 0, LDC 1, AP");
        codeIs("(1 2)", "LDC 0, LDC 1, CONS, LDC 2, AP");
        codeIs("((quote a))", "LDC 0, LDC 1, AP");
        codeIs("((car 1) 2)", "LDC 0, LDC 1, CONS, LDC 2, CAR, AP");
        codeIs("((1))", "LDC 0, LDC 0, LDC 1, AP, AP");
        codeIs("((lambda () 1))", "LDC 0, LDF 4, LDC 1, RTN, AP");
        codeIs("(((quote car) 1))", "LDC 0, LDC 0, LDC 1, CONS, LDC 2, AP, AP");
        // Names that only begin like a form, or that a form begins like.
        for (String name : new String[] {"ca", "cars", "quotes", "i", "ifs", "le", "lets", "letre", "lambd", "equ"}) {
            isRefused("(" + name + ")", UNBOUND);
            codeIs("(lambda (" + name + ") (" + name + "))", "LDF 5, LDC 0, LD 0 0, AP, RTN");
        }
    }

    private static void listsWithoutParts() {
        says("a list without parts is no expression");
        String[] texts = {"()", "( )", "(())", "(1 ())", "(car ())", "(add () 1)", "(add 1 ())", "(cons 1 ())",
            "(if () 1 2)", "(if 1 () 2)", "(if 1 2 ())", "(lambda () ())", "(let ())", "(let 1 (a ()))",
            "(letrec ())", "(letrec 1 (a ()))"};
        for (String text : texts) {
            isRefused(text, FORM);
        }
    }

    private static void boundNames() {
        says("a lambda, let or letrec makes one frame of its x, in their order, around what is said there");
        codeIs("(lambda (a b c) c)", "LDF 3, LD 0 2, RTN");
        // The a of let lie outside of its frame, those of letrec within.
        codeIs("(lambda (y) (let x (x y) (y 1)))",
                "LDF 11, LDC 0, LDC 1, CONS, LD 0 0, CONS, LDF 9, LD 0 0, RTN, AP, RTN");
        codeIs("(lambda (y) (letrec x (x y) (y 1)))",
                "LDF 12, DUM, LDC 0, LDC 1, CONS, LD 0 1, CONS, LDF 10, LD 0 0, RTN, RAP, RTN");
        codeIs("(lambda (y) (letrec x (x y)))",
                "LDF 10, DUM, LDC 0, LD 1 0, CONS, LDF 8, LD 0 0, RTN, RAP, RTN");
        isRefused("(let 1 (x x))", UNBOUND);
        isRefused("(let 1 (x 1) (y x))", UNBOUND);
        isRefused("(let 1 (x y) (y 1))", UNBOUND);
        isTaken("(letrec 1 (x x))");
        isTaken("(letrec 1 (x y) (y x))");
    }

    private static void unboundNames() {
        says("UNBOUND: a name that no frame around has");
        isRefused("x", UNBOUND);
        // nil, t and f are names like all others here.
        isRefused("nil", UNBOUND);
        isRefused("(lambda (x) t)", UNBOUND);
        isRefused("(lambda (x) (if x 1 f))", UNBOUND);
        // A frame ends with its form.
        isRefused("(cons x (lambda (x) 1))", UNBOUND);
        isRefused("(add (let x (x 1)) x)", UNBOUND);
        isRefused("(add (letrec x (x 1)) x)", UNBOUND);
        isRefused("(add (lambda (x) x) x)", UNBOUND);
        isRefused("(let (lambda (z) z) (y z))", UNBOUND);
        isRefused("(lambda (ab) a)", UNBOUND);
        isRefused("(lambda (a) ab)", UNBOUND);
        // Nor does what is quoted bind or need to be bound.
        isTaken("(quote x)");
        isRefused("(cons (quote x) x)", UNBOUND);
        isRefused("((quote (lambda (x) 1)) x)", UNBOUND);
    }

    private static void framesWithoutNames() {
        says("a lambda, let or letrec makes one frame of its x");
        codeIs("(lambda (x) (lambda () x))", "LDF 5, LDF 4, LD 1 0, RTN, RTN");
        codeIs("(lambda (x) (let x))", "LDF 7, LDC 0, LDF 5, LD 1 0, RTN, AP, RTN");
        codeIs("(lambda (x) (letrec x))", "LDF 8, DUM, LDC 0, LDF 6, LD 1 0, RTN, RAP, RTN");
        // Frames without names count all the same, up to as many as lists in lists leave room for.
        codeIs("(lambda(x)" + "(lambda()".repeat(8) + "x" + ")".repeat(9),
                "LDF 19, LDF 18, LDF 17, LDF 16, LDF 15, LDF 14, LDF 13, LDF 12, LDF 11, LD 8 0"
                + ", RTN".repeat(9));
        codeIs("(let" + "(let".repeat(11) + " 1" + ")".repeat(12),
                letsWithin(0, 12));
        codeIs("(lambda(x)" + "(let".repeat(11) + " x" + ")".repeat(12),
                "LDF 47, " + letsWithin(1, 11).replace("LDC 1", "LD 11 0") + ", RTN");
    }

    /** The code of lets without names that lie in one another around a 1, from an address on. */
    private static String letsWithin(int from, int lets) {
        StringBuilder code = new StringBuilder();
        int innermost = from + 2 * lets;
        for (int k = 0; k < lets; k++) {
            // Behind the 1, each let that lies within this one puts out RTN and AP, then comes its RTN.
            code.append("LDC 0, LDF ").append(innermost + 1 + 2 * (lets - 1 - k) + 1).append(", ");
        }
        return code.append("LDC 1").append(", RTN, AP".repeat(lets)).toString();
    }

    private static void leastPlaceInFrame() {
        says("(from 0; if it stands there more than once, the least j)");
        codeIs("(lambda (x x) x)", "LDF 3, LD 0 0, RTN");
        codeIs("(lambda (a x b x x) (cons x b))", "LDF 5, LD 0 2, LD 0 1, CONS, RTN");
        codeIs("(let x (y 1) (x 2) (x 3))",
                "LDC 0, LDC 1, CONS, LDC 2, CONS, LDC 3, CONS, LDF 10, LD 0 1, RTN, AP");
        codeIs("(letrec x (x 1) (x x))", "DUM, LDC 0, LD 0 0, CONS, LDC 1, CONS, LDF 9, LD 0 0, RTN, RAP");
        prints("(lambda (a) (let (cons x a) (x 1) (x 2)))", "3", "(1 . 3)");
    }

    private static void leastFrame() {
        says("of the i-th frame (from 0, the innermost) around; the least i that has it counts");
        codeIs("(lambda (x) (lambda (x) x))", "LDF 5, LDF 4, LD 0 0, RTN, RTN");
        codeIs("(lambda (x y) (lambda (z x) (cons x y)))", "LDF 7, LDF 6, LD 1 1, LD 0 1, CONS, RTN, RTN");
        codeIs("(lambda (x) (lambda (y) (lambda (y) x)))", "LDF 7, LDF 6, LDF 5, LD 2 0, RTN, RTN, RTN");
        prints("(lambda (x) (let x (x (add x 1))))", "3", "4");
    }

    private static void numbersOfConstants() {
        says("LDC k, where k is 1 more than the number of LDC with a k other than 0 put out before "
                + "(also for nil, t, f)");
        codeIs("(add 7 7)", "LDC 1, LDC 2, ADD");
        codeIs("(add (quote 7) 7)", "LDC 1, LDC 2, ADD");
        codeIs("(cons (quote nil) (cons (quote t) (quote f)))", "LDC 1, LDC 2, CONS, LDC 3, CONS");
        codeIs("(cons (quote ()) 0)", "LDC 1, LDC 2, CONS");
        // LDC 0 of calls, let and letrec does not count.
        codeIs("(1 (2 (3)))", "LDC 0, LDC 0, LDC 0, LDC 1, AP, CONS, LDC 2, AP, CONS, LDC 3, AP");
        codeIs("(let 1 (a 2))", "LDC 0, LDC 1, CONS, LDF 6, LDC 2, RTN, AP");
        codeIs("(letrec 1 (a 2))", "DUM, LDC 0, LDC 1, CONS, LDF 7, LDC 2, RTN, RAP");
        codeIs("(if 4 5 6)", "LDC 1, SEL 4 6, LDC 2, JOIN, LDC 3, JOIN");
        says("The CONSTANT k is that number or d (nil, t, f, too).");
        gives("(cons 4 (cons (quote nil) (cons (quote t) (cons (quote f) (quote (5))))))", "1", "(4 nil t f 5)");
        // A refused program leaves no numbers behind.
        CountedProcessor x = new CountedProcessor(24);
        due("a refused program", compiled(x, "(add 1 (add 2 y))"), UNBOUND);
        compiled(x, "(add 3 4)");
        due("its first constant", x.code(0), word("LDC 1"));
        due("its second constant", x.code(1), word("LDC 2"));
    }

    private static void constantZero() {
        says("Constant 0 is nil.");
        // LDC 0 alone is the argument list of a call without arguments; the frame is nil then.
        CountedProcessor x = started(24, "(lambda (x) (1))", "5", MOST_FUEL);
        x.run(3);
        due("LDC 0 puts nil on S: one pair and no other cell", x.used(), 3 + 1 + 1 + 2 + 2 + 4 + 1);
        ends("(lambda (x) ((lambda (y) y)))", "5", SHORT);
    }

    private static void argumentsFromTheLast() {
        says("ARGS of some expressions: LDC 0, then for each of them, from the last to the first: it, CONS");
        codeIs("(lambda (f a b c) (f a b c))",
                "LDF 11, LDC 0, LD 0 3, CONS, LD 0 2, CONS, LD 0 1, CONS, LD 0 0, AP, RTN");
        codeIs("(let 1 (a 10) (b (quote q)) (c 30))",
                "LDC 0, LDC 1, CONS, LDC 2, CONS, LDC 3, CONS, LDF 10, LDC 4, RTN, AP");
        gives("((lambda (a b c) (cons a (cons b c))) 1 2 3)", "0", "(1 2 . 3)");
        gives("(let (cons a (cons b c)) (a 1) (b 2) (c 3))", "0", "(1 2 . 3)");
    }

    private static void consFromTheLast() {
        says("(cons a b): b, a, CONS");
        codeIs("(lambda (a b) (cons a b))", "LDF 5, LD 0 1, LD 0 0, CONS, RTN");
        gives("(cons 1 2)", "0", "(1 . 2)");
        says("(car a): a, CAR. Likewise (cdr a) CDR and (atom a) ATOM");
        codeIs("(car (cdr (atom 1)))", "LDC 1, ATOM, CDR, CAR");
        says("(add a b): a, b, ADD. Likewise sub, mul, div, rem, eq, leq");
        for (String op : new String[] {"add", "sub", "mul", "div", "rem", "eq", "leq"}) {
            codeIs("(lambda (a b) (" + op + " a b))", "LDF 5, LD 0 0, LD 0 1, " + op.toUpperCase() + ", RTN");
        }
        gives("(sub 7 2)", "0", "5");
    }

    private static void addressesOfIf() {
        says("(if c a b): c, SEL p q, a, JOIN, b, JOIN, where p is the address of b's first instruction, "
                + "q that behind the second JOIN");
        codeIs("(if 1 2 3)", "LDC 1, SEL 4 6, LDC 2, JOIN, LDC 3, JOIN");
        codeIs("(if (if 1 2 3) (if 4 5 6) (if 7 8 9))",
                "LDC 1, SEL 4 6, LDC 2, JOIN, LDC 3, JOIN, SEL 14 21, LDC 4, SEL 11 13, LDC 5, JOIN, LDC 6, JOIN, JOIN, "
                + "LDC 7, SEL 18 20, LDC 8, JOIN, LDC 9, JOIN, JOIN");
    }

    private static void addressesOfFunctions() {
        says("(lambda (x ..) e), no or more x: LDF p, e within a frame of the x, RTN, where p is the address behind RTN");
        codeIs("(lambda () 1)", "LDF 3, LDC 1, RTN");
        codeIs("(lambda () (lambda () 1))", "LDF 5, LDF 4, LDC 1, RTN, RTN");
        codeIs("(cons (lambda () 1) (lambda () 2))", "LDF 3, LDC 1, RTN, LDF 6, LDC 2, RTN, CONS");
    }

    private static void noNamesAtAll() {
        says("(letrec e (x a) ..): DUM; ARGS of the a within a frame of the x; LDF p, e within that frame, RTN; RAP");
        codeIs("(letrec 1)", "DUM, LDC 0, LDF 5, LDC 1, RTN, RAP");
        gives("(letrec x)", "5", "5");
        says("(let e (x a) ..), no or more (x a): ARGS of the a; LDF p, e within a frame of the x, RTN; AP.");
        codeIs("(let 1)", "LDC 0, LDF 4, LDC 1, RTN, AP");
        gives("(let x)", "5", "5");
        says("(f a1 .. an): ARGS of a1 .. an, f, AP");
        codeIs("((lambda () 1))", "LDC 0, LDF 4, LDC 1, RTN, AP");
        gives("((lambda () x))", "5", "5");
    }

    private static void endOfCode() {
        says("put out in this order at the addresses 0, 1, .., then AP and STOP");
        CountedProcessor x = new CountedProcessor(24);
        due("the shortest code", compiled(x, "1"), 3);
        due("at 0", x.code(0), word("LDC 1"));
        due("then AP", x.code(1), word("AP"));
        due("and STOP", x.code(2), word("STOP"));
        due("and nothing", x.code(3), -1);
    }

    private static void lookedAtBeforeItsParts() {
        says("An expression is looked at before what it is made of");
        isRefused("(add x y z)", FORM);
        isRefused("(car x 1)", FORM);
        isRefused("(if x)", FORM);
        isRefused("(if x y)", FORM);
        isRefused("(lambda (1) x)", FORM);
        isRefused("(lambda x x)", FORM);
        isRefused("(let x (y))", FORM);
        isRefused("(let x (y z) (1 2))", FORM);
        isRefused("(letrec x (y z) 1)", FORM);
        isRefused("(add (car x 1) y)", FORM);
        isRefused("(add y (car x 1))", UNBOUND);
    }

    private static void firstErrorOfCallsAndForms() {
        says("the first one in the order of putting out that is wrong (FORM: a list without parts, or a form "
                + "without just its parts; UNBOUND: a name that no frame around has) is the error");
        isRefused("(add x ())", UNBOUND);
        isRefused("(add () x)", FORM);
        isRefused("(leq x (if))", UNBOUND);
        isRefused("(cons x ())", FORM);
        isRefused("(cons () x)", UNBOUND);
        isRefused("(if x () ())", UNBOUND);
        isRefused("(if () x x)", FORM);
        isRefused("(if 1 x ())", UNBOUND);
        isRefused("(if 1 () x)", FORM);
        isRefused("(if 1 2 x)", UNBOUND);
        isRefused("(x ())", FORM);
        isRefused("(() x)", UNBOUND);
        isRefused("(1 x ())", FORM);
        isRefused("(1 () x)", UNBOUND);
        isRefused("(x (add 1))", FORM);
        isRefused("((add 1) x)", UNBOUND);
        isRefused("(lambda (x) (add y ()))", UNBOUND);
    }

    private static void firstErrorOfBindings() {
        says("the first one in the order of putting out that is wrong");
        for (String form : new String[] {"let", "letrec"}) {
            isRefused("(" + form + " () (y x))", UNBOUND);
            isRefused("(" + form + " x (y ()))", FORM);
            isRefused("(" + form + " 1 (y x) (z ()))", FORM);
            isRefused("(" + form + " 1 (y ()) (z x))", UNBOUND);
        }
    }

    private static void longestCode() {
        says("The TEXT is a list of at most 200 characters");
        String text = "(let(x" + "1x".repeat(94) + ")(x1))";
        CountedProcessor x = new CountedProcessor(200);
        due("all of them", text.length(), 200);
        // LDC 0, LDC 1, CONS, LDF, LDC 0, 188 times a value and CONS, LD, AP, RTN, AP; AP, STOP.
        due("two instructions a character", compiled(x, text), 5 + 188 * 2 + 4 + 2);
        due("LDF", x.code(3), word("LDF 384"));
        due("the first argument is put out last", x.code(5 + 2 * 187), word("LDC 95"));
        due("STOP", x.code(386), word("STOP"));
        due("behind STOP", x.code(387), -1);
        String far = "(lambda(" + "a ".repeat(92) + "b)b)";
        CountedProcessor y = new CountedProcessor(24);
        compiled(y, far);
        due("a far place in a frame", y.code(1), word("LD 0 92"));
        CountedProcessor z = new CountedProcessor(24);
        String choice = "(lambda(x)(if x(x" + "1x".repeat(86) + ")(x)))";
        due("a far address", compiled(z, choice), 1 + 2 + 1 + 172 * 2 + 2 + 1 + 3 + 1 + 1 + 2);
        due("SEL", z.code(2), word("SEL 351 355"));
    }
}
