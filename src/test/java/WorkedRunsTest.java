/**
 * Whole runs, written out step by step from the document alone: each line follows from the line
 * before it by the row of one instruction. The sheets were written before the program was asked.
 */
public final class WorkedRunsTest extends Check {
    private static final String CHOICE = "(lambda (x) (let (if (leq y x) (cons y x) y) (y 3)))";
    private static final String DOWN =
            "(letrec (lambda (n) (f n)) (f (lambda (n) (if (eq n 0) n (f (sub n 1))))))";

    public static void main(String[] args) {
        codeOfTheSheets();
        choice();
        down();
        downWithCollections();
        downUntilFull();
        end();
    }

    private static void codeOfTheSheets() {
        says("The CODE of a program is its expression's instructions, put out in this order at the addresses 0, 1, ..");
        codeIs(CHOICE, "LDF 18, LDC 0, LDC 1, CONS, LDF 16, LD 0 0, LD 1 0, LEQ, SEL 13 15, LD 1 0, LD 0 0, CONS, "
                + "JOIN, LD 0 0, JOIN, RTN, AP, RTN");
        codeIs(DOWN, "DUM, LDC 0, LDF 18, LD 0 0, LDC 1, EQ, SEL 9 17, LD 0 0, JOIN, LDC 0, LD 0 0, LDC 2, SUB, CONS, "
                + "LD 1 0, AP, JOIN, RTN, CONS, LDF 28, LDF 27, LDC 0, LD 0 0, CONS, LD 1 0, AP, RTN, RTN, RAP");
    }

    /**
     * A sheet has a line for the beginning and one for each step: the instruction, then behind it
     * the cycles, the next address, S, E, D, used and live cells and collections; what stands
     * behind a further bar is said for the reader alone.
     */
    private static CountedProcessor follows(CountedProcessor x, String sheet) {
        String ahead = "";
        for (String line : sheet.strip().split("\n")) {
            String[] columns = line.split("\\|");
            String instruction = columns[0].trim();
            if (!instruction.equals("begin")) {
                due(instruction + " is next, behind [" + ahead + "]", x.code(x.address()), word(instruction));
                due(instruction + " is done", x.run(1), 1);
            }
            due(line, numbers(x), columns[1].trim().replaceAll(" +", " "));
            ahead = line;
        }
        return x;
    }

    private static String numbers(CountedProcessor x) {
        return x.cycles() + " " + x.address() + " " + x.depth(0) + " " + x.depth(1) + " " + x.depth(2) + " "
                + x.used() + " " + x.live() + " " + x.collections();
    }

    private static void choice() {
        says("(3) The instruction is done: its cycles are spent, the next address is one more, unless it says otherwise.");
        CountedProcessor x = follows(started(60, CHOICE, "4", MOST_FUEL), """
                begin   |  0  0  1 0 0   7  7 0 | names 3, the constant 3, the argument 4, its list, S
                LDF 18  |  3 18  2 0 0   9  9 0 | a closure and S
                AP      |  9  1  0 1 1  13 10 0 | E 1, D 3; two pairs of S and the closure are lost
                LDC 0   | 11  2  1 1 1  14 11 0 |
                LDC 1   | 13  3  2 1 1  15 12 0 |
                CONS    | 16  4  1 1 1  17 12 0 | a pair and S for the two of S
                LDF 16  | 19 16  2 1 1  19 14 0 |
                AP      | 25  5  0 2 2  23 15 0 | E 1, D 3; two pairs of S and the closure are lost
                LD 0 0  | 28  6  1 2 2  24 16 0 | y, 3
                LD 1 0  | 32  7  2 2 2  25 17 0 | x, 4
                LEQ     | 36  8  1 2 2  26 16 0 | 3 is at most 4: t
                SEL 13 15 | 39 9 0 2 3  27 16 0 | a mark for the pair of S
                LD 1 0  | 43 10  1 2 3  28 17 0 |
                LD 0 0  | 46 11  2 2 3  29 18 0 |
                CONS    | 49 12  1 2 3  31 18 0 |
                JOIN    | 51 15  1 2 2  31 17 0 | the mark is lost
                RTN     | 55 17  1 1 1  32 12 0 | E 1, the list of 3, D 3 are lost, a pair of S is another
                RTN     | 59 19  1 0 0  33  7 0 | E 1, the list of 4, D 3 are lost; 4 is in the pair
                STOP    | 60 19  1 0 0  33  7 0 | names 3, the constant 3, S, the pair, 4
                """);
        due("done", x.status(), DONE);
        due("the result", result(x), "(3 . 4)");
    }

    private static void down() {
        says("RAP, 7, 3");
        CountedProcessor x = follows(started(100, DOWN, "1", MOST_FUEL), """
                begin   |   0  0  1 0 0   8  8 0 | names 3, the constants 0 and 1, the argument 1, its list, S
                DUM     |   2  1  1 1 0   9  9 0 |
                LDC 0   |   4  2  2 1 0  10 10 0 |
                LDF 18  |   7 18  3 1 0  12 12 0 | the closure of f
                CONS    |  10 19  2 1 0  14 12 0 |
                LDF 28  |  13 28  3 1 0  16 14 0 |
                RAP     |  20 20  0 1 1  19 14 0 | D 3; lost: two pairs of S and the closure
                LDF 27  |  23 27  1 1 1  21 16 0 | the closure of (lambda (n) (f n))
                RTN     |  27 29  2 0 0  22 13 0 | D 3 and a pair of S are lost; S is a new pair before the old one
                AP      |  33 21  0 2 1  26 14 0 | E 1, D 3; two pairs of S and the closure are lost
                LDC 0   |  35 22  1 2 1  27 15 0 |
                LD 0 0  |  38 23  2 2 1  28 16 0 |
                CONS    |  41 24  1 2 1  30 16 0 |
                LD 1 0  |  45 25  2 2 1  31 17 0 | f
                AP      |  51  3  0 2 2  35 19 0 | E 1, D 3; two pairs of S are lost, f is not
                LD 0 0  |  54  4  1 2 2  36 20 0 |
                LDC 1   |  56  5  2 2 2  37 21 0 |
                EQ      |  59  6  1 2 2  38 20 0 | 1 is not 0: f
                SEL 9 17 | 62  9  0 2 3  39 20 0 |
                LDC 0   |  64 10  1 2 3  40 21 0 |
                LD 0 0  |  67 11  2 2 3  41 22 0 |
                LDC 2   |  69 12  3 2 3  42 23 0 |
                SUB     |  73 13  2 2 3  44 23 0 | a new 0 and S for two pairs of S
                CONS    |  76 14  1 2 3  46 23 0 |
                LD 1 0  |  80 15  2 2 3  47 24 0 |
                AP      |  86  3  0 2 4  51 26 0 |
                LD 0 0  |  89  4  1 2 4  52 27 0 |
                LDC 1   |  91  5  2 2 4  53 28 0 |
                EQ      |  94  6  1 2 4  54 27 0 | 0 is 0: t
                SEL 9 17 | 97  7  0 2 5  55 27 0 |
                LD 0 0  | 100  8  1 2 5  56 28 0 |
                JOIN    | 102 17  1 2 4  56 27 0 |
                RTN     | 106 16  1 2 3  57 22 0 | E 1, the list of the new 0 and D 3 are lost
                JOIN    | 108 17  1 2 2  57 21 0 |
                RTN     | 112 26  1 2 1  58 16 0 | E 1, the list of 1 and D 3 are lost
                RTN     | 116 30  1 0 0  59  7 0 | names 3, the constants, S, the new 0
                STOP    | 117 30  1 0 0  59  7 0 |
                """);
        due("done", x.status(), DONE);
        due("the result", result(x), "0");
    }

    /** The same steps; where too few of 30 cells are free, 30 and the live cells of the line before are spent. */
    private static void downWithCollections() {
        says("it costs as many cycles as there are cells and live cells together (the instruction is done all the same)");
        CountedProcessor x = follows(started(30, DOWN, "1", MOST_FUEL), """
                begin   |   0  0  1 0 0   8  8 0 |
                DUM     |   2  1  1 1 0   9  9 0 |
                LDC 0   |   4  2  2 1 0  10 10 0 |
                LDF 18  |   7 18  3 1 0  12 12 0 |
                CONS    |  10 19  2 1 0  14 12 0 |
                LDF 28  |  13 28  3 1 0  16 14 0 |
                RAP     |  20 20  0 1 1  19 14 0 |
                LDF 27  |  23 27  1 1 1  21 16 0 |
                RTN     |  27 29  2 0 0  22 13 0 |
                AP      |  33 21  0 2 1  26 14 0 |
                LDC 0   |  35 22  1 2 1  27 15 0 |
                LD 0 0  |  38 23  2 2 1  28 16 0 |
                CONS    |  41 24  1 2 1  30 16 0 | just two were free
                LD 1 0  |  91 25  2 2 1  17 17 1 | 30 + 16 and 4
                AP      |  97  3  0 2 2  21 19 1 |
                LD 0 0  | 100  4  1 2 2  22 20 1 |
                LDC 1   | 102  5  2 2 2  23 21 1 |
                EQ      | 105  6  1 2 2  24 20 1 |
                SEL 9 17 | 108 9  0 2 3  25 20 1 |
                LDC 0   | 110 10  1 2 3  26 21 1 |
                LD 0 0  | 113 11  2 2 3  27 22 1 |
                LDC 2   | 115 12  3 2 3  28 23 1 |
                SUB     | 119 13  2 2 3  30 23 1 | just two were free
                CONS    | 175 14  1 2 3  25 23 2 | 30 + 23 and 3
                LD 1 0  | 179 15  2 2 3  26 24 2 |
                AP      | 185  3  0 2 4  30 26 2 | just four were free
                LD 0 0  | 244  4  1 2 4  27 27 3 | 30 + 26 and 3
                LDC 1   | 246  5  2 2 4  28 28 3 |
                EQ      | 249  6  1 2 4  29 27 3 |
                SEL 9 17 | 252 7  0 2 5  30 27 3 |
                LD 0 0  | 312  8  1 2 5  28 28 4 | 30 + 27 and 3
                JOIN    | 314 17  1 2 4  28 27 4 |
                RTN     | 318 16  1 2 3  29 22 4 |
                JOIN    | 320 17  1 2 2  29 21 4 |
                RTN     | 324 26  1 2 1  30 16 4 |
                RTN     | 374 30  1 0 0  17  7 5 | 30 + 16 and 4
                STOP    | 375 30  1 0 0  17  7 5 |
                """);
        due("done", x.status(), DONE);
        due("the result", result(x), "0");
    }

    private static void downUntilFull() {
        says("If those not used are too few even then, the run ends as FULL (the collection was made).");
        CountedProcessor x = follows(started(27, DOWN, "1", MOST_FUEL), """
                begin   |   0  0  1 0 0   8  8 0 |
                DUM     |   2  1  1 1 0   9  9 0 |
                LDC 0   |   4  2  2 1 0  10 10 0 |
                LDF 18  |   7 18  3 1 0  12 12 0 |
                CONS    |  10 19  2 1 0  14 12 0 |
                LDF 28  |  13 28  3 1 0  16 14 0 |
                RAP     |  20 20  0 1 1  19 14 0 |
                LDF 27  |  23 27  1 1 1  21 16 0 |
                RTN     |  27 29  2 0 0  22 13 0 |
                AP      |  33 21  0 2 1  26 14 0 |
                LDC 0   |  35 22  1 2 1  27 15 0 |
                LD 0 0  |  80 23  2 2 1  16 16 1 | 27 + 15 and 3
                CONS    |  83 24  1 2 1  18 16 1 |
                LD 1 0  |  87 25  2 2 1  19 17 1 |
                AP      |  93  3  0 2 2  23 19 1 |
                LD 0 0  |  96  4  1 2 2  24 20 1 |
                LDC 1   |  98  5  2 2 2  25 21 1 |
                EQ      | 101  6  1 2 2  26 20 1 |
                SEL 9 17 | 104 9  0 2 3  27 20 1 |
                LDC 0   | 153 10  1 2 3  21 21 2 | 27 + 20 and 2
                LD 0 0  | 156 11  2 2 3  22 22 2 |
                LDC 2   | 158 12  3 2 3  23 23 2 |
                SUB     | 162 13  2 2 3  25 23 2 |
                CONS    | 165 14  1 2 3  27 23 2 |
                LD 1 0  | 219 15  2 2 3  24 24 3 | 27 + 23 and 4
                """);
        due("AP finds three cells where it takes four", x.run(1000), 0);
        due("full: 27 + 24", x.status() + " " + numbers(x), "4 270 15 2 2 3 24 24 4");
    }
}
