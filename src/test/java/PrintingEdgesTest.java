/** The edges of PRINTING: each method is one sentence, or a part of one, of the document. */
public final class PrintingEdgesTest extends Check {
    public static void main(String[] args) {
        cutAfter80();
        cutInTheMiddle();
        cutWithinThePoint();
        cutOfWhatIsVeryLong();
        numbers();
        names();
        closures();
        pairs();
        lastTails();
        deepPairs();
        tailsAreAsDeep();
        deepThingsThatAreNoPairs();
        end();
    }

    /** A list of numbers that is printed as it stands, with so many characters. */
    private static String listOfLength(int length) {
        String ones = "1 ".repeat((length - 3) / 2);
        return "(" + ones + (length % 2 == 0 ? "23)" : "2)");
    }

    private static String firstOf(String text, int length) {
        return text.substring(0, Math.min(length, text.length()));
    }

    private static void cutAfter80() {
        says("PRINTING of the result, cut after 80 characters");
        for (int length : new int[] {3, 4, 78, 79, 80, 81, 82, 83, 120}) {
            String list = listOfLength(length);
            due("its length", list.length(), length);
            CountedProcessor x = finished(SAME, list);
            due("printed of " + length, x.printed(), Math.min(80, length));
            due("result of " + length, result(x), firstOf(list, 80));
        }
    }

    private static void cutInTheMiddle() {
        says("cut after 80 characters");
        // 75 to 80 characters of the list stand before what is cut.
        for (int ones = 36; ones <= 40; ones++) {
            for (String last : new String[] {"123456789", "-123456789", "abcdef", "(a b)", "((c))"}) {
                String list = "(" + "1 ".repeat(ones) + last + ")";
                prints(SAME, list, firstOf(list, 80));
            }
        }
    }

    private static void cutWithinThePoint() {
        says("then, if the last tail is not nil, \" . \" and that, and ')'");
        for (int length = 72; length <= 80; length++) {
            String list = listOfLength(length);
            prints("(lambda (x) (cons x 5))", list, firstOf("(" + list + " . 5)", 80));
            prints("(lambda (x) (cons x (lambda () 1)))", list, firstOf("(" + list + " . fn)", 80));
        }
    }

    private static void cutOfWhatIsVeryLong() {
        says("cut after 80 characters");
        // Each let doubles what a is printed as, and takes one cell for it.
        String doubled = "(let ".repeat(6) + "a" + " (a (cons a a)))".repeat(6);
        CountedProcessor x = finished("(lambda (a) " + doubled + ")", "(1)");
        due("printed", x.printed(), 80);
        due("its beginning", result(x).substring(0, 26), "(((((((1) 1) (1) 1) ((1) 1");
    }

    private static void numbers() {
        says("a number in decimal digits, with a '-' before if it is below 0");
        prints(SAME, "0", "0");
        prints(SAME, "-0", "0");
        prints(SAME, "1", "1");
        prints(SAME, "-1", "-1");
        prints(SAME, "10", "10");
        prints(SAME, "0100", "100");
        prints(SAME, "-999999999", "-999999999");
        gives("(mul 65536 32768)", "0", "-2147483648");
        gives("(sub (mul 65536 32768) 1)", "0", "2147483647");
    }

    private static void names() {
        says("a number in decimal digits, with a '-' before if it is below 0; a name");
        for (String name : new String[] {"a", "z", "nil", "t", "f", "fn", "abcdef", "zzzzzz", "car", "az", "za"}) {
            prints(SAME, name, name);
        }
        prints(SAME, "()", "nil");
    }

    private static void closures() {
        says("a closure as \"fn\"");
        gives("(lambda () 1)", "1", "fn");
        gives("(letrec f (f (lambda () f)))", "1", "fn");
        gives("(cons (lambda () 1) x)", "1", "(fn . 1)");
        gives("(cons x (cons (lambda () 1) (quote nil)))", "1", "(1 fn)");
    }

    private static void pairs() {
        says("a pair: '(', the head, then for each further pair that is the tail of the one before "
                + "a blank and its head");
        prints(SAME, "(1)", "(1)");
        prints(SAME, "(1 2)", "(1 2)");
        prints(SAME, "(   1(2(3))4   )", "(1 (2 (3)) 4)");
        prints(SAME, "(())", "(nil)");
        prints(SAME, "(() ())", "(nil nil)");
        gives("(cons x x)", "(1 2)", "((1 2) 1 2)");
    }

    private static void lastTails() {
        says("then, if the last tail is not nil, \" . \" and that, and ')'");
        gives("(cons 1 x)", "nil", "(1)");
        gives("(cons 1 x)", "()", "(1)");
        gives("(cons x x)", "nil", "(nil)");
        gives("(cons 1 x)", "2", "(1 . 2)");
        gives("(cons 1 x)", "-2", "(1 . -2)");
        gives("(cons 1 x)", "a", "(1 . a)");
        gives("(cons 1 x)", "t", "(1 . t)");
        gives("(cons 1 x)", "f", "(1 . f)");
        gives("(cons 1 (lambda () 1))", "0", "(1 . fn)");
        gives("(cons 1 (cons 2 (cons 3 x)))", "4", "(1 2 3 . 4)");
        gives("(cons (cons 1 x) (cons 2 x))", "4", "((1 . 4) 2 . 4)");
    }

    private static void deepPairs() {
        says("The result, if a pair, is 1 deep; the tail of a pair k deep is k deep, its head k + 1; "
                + "a pair more than 8 deep is printed as '#'.");
        prints(SAME, "(((((((1)))))))", "(((((((1)))))))");
        prints(SAME, "((((((((1))))))))", "((((((((1))))))))");
        prints(SAME, "(((((((((1)))))))))", "((((((((#))))))))");
        prints(SAME, "((((((((((1))))))))))", "((((((((#))))))))");
        prints(SAME, "((((((((((((1))))))))))))", "((((((((#))))))))");
        prints(SAME, "(((((((" + "(1 (2) 3 (4 5) (()))" + ")))))))", "(((((((" + "(1 # 3 # #)" + ")))))))");
    }

    private static void tailsAreAsDeep() {
        says("the tail of a pair k deep is k deep, its head k + 1");
        prints(SAME, "(1 2 3 4 5 6 7 8 9 10 11 12)", "(1 2 3 4 5 6 7 8 9 10 11 12)");
        prints(SAME, "((((((((1 2 3 4 5 6 7 8 9))))))))", "((((((((1 2 3 4 5 6 7 8 9))))))))");
        prints(SAME, "(1 2 3 4 5 6 7 8 9 (1))", "(1 2 3 4 5 6 7 8 9 (1))");
        prints(SAME, "(1 (2 (3 (4 (5 (6 (7 (8))))))))", "(1 (2 (3 (4 (5 (6 (7 (8))))))))");
        prints(SAME, "(1 (2 (3 (4 (5 (6 (7 (8 (9)))))))))", "(1 (2 (3 (4 (5 (6 (7 (8 #))))))))");
        gives("(cons 1 (cons x 2))", "(((((((1)))))))", "(1 (((((((1))))))) . 2)");
        gives("(cons 1 (cons x 2))", "((((((((1))))))))", "(1 (((((((#))))))) . 2)");
    }

    private static void deepThingsThatAreNoPairs() {
        says("a pair more than 8 deep is printed as '#'");
        prints(SAME, "((((((((()))))))))", "((((((((nil))))))))");
        prints(SAME, "((((((((a -5))))))))", "((((((((a -5))))))))");
        gives(wrapped("(cons 1 2)", 7), "0", "(((((((" + "(1 . 2)" + ")))))))");
        gives(wrapped("(cons 1 2)", 8), "0", "((((((((" + "#" + "))))))))");
        gives(wrapped("(lambda () 1)", 8), "0", "((((((((" + "fn" + "))))))))");
    }

    /** An expression for the value in a list, that in a list, and so on. */
    private static String wrapped(String expression, int times) {
        return "(cons ".repeat(times) + expression + " (quote nil))".repeat(times);
    }
}
