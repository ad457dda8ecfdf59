/** The edges of READING: each method is one sentence, or one half of it, of the document. */
public final class ReadingEdgesTest extends Check {
    public static void main(String[] args) {
        characters();
        lengthOfText();
        digitsOfNumbers();
        zerosAhead();
        negativeNumbers();
        lettersOfNames();
        sideBySide();
        emptyLists();
        blanks();
        noBlanks();
        oneDatum();
        nesting();
        end();
    }

    /** The text as an argument gives back a value that is printed so. */
    private static void isRead(String text, String printed) {
        prints(SAME, text, printed);
    }

    private static void isUnread(String text) {
        CountedProcessor x = new CountedProcessor(200);
        due("[" + text + "] as a program", compiled(x, text), -1);
        CountedProcessor y = new CountedProcessor(200);
        compiled(y, SAME);
        due("[" + text + "] as an argument", begun(y, text, 10), -2);
    }

    private static void characters() {
        says("blanks (32), '(', ')', '-', digits, small letters");
        CountedProcessor x = new CountedProcessor(24);
        for (char c : " ()-0123456789abcdefghijklmnopqrstuvwxyz".toCharArray()) {
            due("put " + c, x.put(c), true);
        }
        for (char c : "\t\n!'*+,./:;@AZ[`{|}~_\"\u007f\u00e4".toCharArray()) {
            due("put " + (int) c, x.put(c), false);
        }
        int[] numbers = {0, -1, 31, 33, 39, 42, 44, 46, 47, 58, 64, 96, 123, 128, 255, 256,
            256 + ' ', 256 + 'a', 65536 + '(', -256 + 'a', -65536 + '1', Integer.MAX_VALUE, Integer.MIN_VALUE,
            Integer.MIN_VALUE + 'a'};
        for (int c : numbers) {
            due("put " + c, x.put(c), false);
        }
    }

    private static void lengthOfText() {
        says("The TEXT is a list of at most 200 characters");
        CountedProcessor x = new CountedProcessor(24);
        compiled(x, SAME);
        type(x, " ".repeat(198) + "7");
        due("the 200th", x.put('8'), true);
        due("the 201st", x.put('9'), false);
        due("the 202nd, a blank", x.put(' '), false);
        x.begin(MOST_FUEL);
        x.run(1000);
        due("the text was 78 behind 198 blanks", result(x), "78");
        CountedProcessor y = new CountedProcessor(200);
        compiled(y, SAME);
        String longest = "(" + "a1".repeat(99) + ")";
        due("200 characters, 198 numbers and names in a list", begun(y, longest, 10), -3);
        due("the text of 200 stays when refused", y.put('1'), false);
    }

    private static void digitsOfNumbers() {
        says("A NUMBER is 1 to 9 digits");
        isRead("0", "0");
        isRead("9", "9");
        isRead("12345678", "12345678");
        isRead("123456789", "123456789");
        isRead("999999999", "999999999");
        isUnread("1000000000");
        isUnread("1234567890");
        // In ints that wrap these would be 1 and 0.
        isUnread("4294967297");
        isUnread("18446744073709551616");
        isUnread("9".repeat(200));
    }

    private static void zerosAhead() {
        says("1 to 9 digits (0s ahead do no harm)");
        isRead("00", "0");
        isRead("007", "7");
        isRead("000000000", "0");
        isRead("000000001", "1");
        // Ten digits are more than said, whatever stands ahead.
        isUnread("0000000000");
        isUnread("0000000001");
    }

    private static void negativeNumbers() {
        says("or a '-' and 1 to 9 digits directly behind it");
        isRead("-1", "-1");
        isRead("-0", "0");
        isRead("-007", "-7");
        isRead("-000000000", "0");
        isRead("-999999999", "-999999999");
        isUnread("-1000000000");
        isUnread("-0000000001");
        isUnread("-");
        isUnread("- 1");
        isUnread("--1");
        isUnread("-a");
        isUnread("-(1)");
        isUnread("1-");
        isUnread("(-)");
        isUnread("(1 -)");
        isUnread("(- 1)");
    }

    private static void lettersOfNames() {
        says("a NAME is 1 to 6 small letters");
        isRead("a", "a");
        isRead("z", "z");
        isRead("abcde", "abcde");
        isRead("abcdef", "abcdef");
        isRead("zzzzzz", "zzzzzz");
        isUnread("abcdefg");
        isUnread("aaaaaaa");
        isUnread("z".repeat(200));
        due("a name of 6 letters in a program", compiled("(lambda (lambda) lambda)"), 5);
        due("a name of 7 letters in a program", compiled("(lambda (lambdas) 1)"), -1);
    }

    private static void sideBySide() {
        says("digits that stand side by side belong to one number, letters side by side to one name "
                + "(more of them than said is an error)");
        isRead("(12 3 ab c)", "(12 3 ab c)");
        isRead("(123abc)", "(123 abc)");
        // Not a number of 9 digits and one of 1, not a name of 6 letters and one of 1.
        isUnread("(1234567890)");
        isUnread("(-1234567890)");
        isUnread("(1 2 1234567890 3)");
        isUnread("(abcdefg)");
        isUnread("(a b abcdefg c)");
        isUnread("(1abcdefg)");
        isUnread("(a1234567890)");
        // Each of them may be as long as said, also right behind one of the other kind.
        isRead("(abcdef123456789ghijkl-987654321)", "(abcdef 123456789 ghijkl -987654321)");
    }

    private static void emptyLists() {
        says("The data in a list, none or more, are its PARTS.");
        isRead("()", "nil");
        isRead("( )", "nil");
        isRead("(())", "(nil)");
        isRead("(1)", "(1)");
        isRead("(1 () (()) 2)", "(1 nil (nil) 2)");
    }

    private static void blanks() {
        says("Blanks may stand before and behind numbers, names, '(' and ')'");
        isRead("  1  ", "1");
        isRead("  a  ", "a");
        isRead("  -1  ", "-1");
        isRead("   (   1   a   (   )   -2   )   ", "(1 a nil -2)");
        isUnread("(- 2)");
        isRead("(1 2)", "(1 2)");
        isRead("(a b)", "(a b)");
    }

    private static void noBlanks() {
        says("and need not (5-3 is 5 and -3, 1a is 1 and a)");
        isRead("(5-3)", "(5 -3)");
        isRead("(1a)", "(1 a)");
        isRead("(a1)", "(a 1)");
        isRead("(a-1)", "(a -1)");
        isRead("(1-2-3)", "(1 -2 -3)");
        isRead("(1(2)a(b)3)", "(1 (2) a (b) 3)");
        isRead("(()())", "(nil nil)");
        // Outside of a list they are two data.
        isUnread("5-3");
        isUnread("1a");
        isUnread("a1");
        due("add of 5 and -3", compiled("(add5-3)"), 5);
    }

    private static void oneDatum() {
        says("A text is READ when it is one datum with blanks before and behind it");
        isUnread("");
        isUnread(" ");
        isUnread(" ".repeat(200));
        isUnread("1 2");
        isUnread("a b");
        isUnread("() ()");
        isUnread("()1");
        isUnread("1()");
        isUnread("(");
        isUnread(")");
        isUnread("(1");
        isUnread("1)");
        isUnread("(1))");
        isUnread("((1)");
        isUnread(")(");
        isUnread("())(");
        isRead(" ".repeat(100) + "5" + " ".repeat(99), "5");
    }

    private static void nesting() {
        says("no list in it lies in more than 11 others");
        String twelve = "(".repeat(12) + ")".repeat(12);
        String thirteen = "(".repeat(13) + ")".repeat(13);
        isUnread(thirteen);
        isUnread("(1 " + twelve + ")");
        isUnread("(" + twelve + " 1)");
        isUnread("(".repeat(13) + "1" + ")".repeat(13));
        isUnread("(".repeat(200));
        isUnread("(".repeat(100) + ")".repeat(100));
        CountedProcessor x = new CountedProcessor(200);
        compiled(x, SAME);
        due("the innermost lies in 11", begun(x, twelve, 10), 3 + 11 + 2);
        // A number is no list: it may lie in 12.
        due("a number in 12 lists", begun(x, "(".repeat(12) + "1" + ")".repeat(12), 10), 3 + 13 + 2);
        String eleven = twelve.substring(1, 23);
        due("two of them side by side", begun(x, "(" + eleven + eleven + ")", 10), 3 + 2 * 11 + 2);
        due("many lists side by side", begun(x, "(" + "()".repeat(30) + ")", 10), 3 + 30 + 2);
        due("a program of 12", compiled("(".repeat(12) + "1" + ")".repeat(12)), 1 + 12 * 2 + 2);
        due("a program of 13", compiled("(".repeat(13) + "1" + ")".repeat(13)), -1);
        due("a constant of 12", compiled("(quote " + eleven + ")"), 3);
        due("a constant of 13", compiled("(quote " + twelve + ")"), -1);
        // What cannot be read is no FORM and no UNBOUND, wherever it stands.
        due("a wrong form ahead", compiled("(if () x " + twelve + ")"), -1);
    }
}
