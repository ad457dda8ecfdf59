import java.util.ArrayList;
import java.util.List;
import java.util.Random;

/** Makes calls by chance, always the same ones, on a processor and on the oracle side by side. */
public final class OracleTest {
    private static final int OBJECTS = 20000;
    // As many as lookAtAll makes when 80 characters are printed.
    private static final int LOOK_CALLS = 96;
    private static final String[] NAMES = {"x", "y", "f", "g", "t", "nil", "add", "if"};
    private static final String[] TWO = {"add", "sub", "mul", "div", "rem", "eq", "leq", "cons"};
    private static final String[] ONE = {"car", "cdr", "atom"};
    private static final String[] PROGRAMS = {
        "(letrec(lambda(n)(f n nil))(f(lambda(n a)(if(leq n 0)a(f(sub n 1)(cons n a)))))(nil 0))",
        "(letrec(lambda(n)(f n))(f(lambda(n)(if(leq n 1)n(add(f(sub n 1))(f(sub n 2)))))))",
        "(letrec(lambda(l)(m(lambda(x)(mul x x))l))(m(lambda(f l)(if(atom l)l(cons(f(car l))(m f(cdr l)))))))",
        "(letrec(lambda(n)(e n))(e(lambda(n)(if(eq n 0)(quote t)(o(sub n 1)))))(o(lambda(n)(if(eq n 0)(quote f)(e(sub n 1))))))",
        "(letrec(lambda(n)(f n(quote(a))))(f(lambda(n a)(if(eq n 0)a(f(sub n 1)(cons a a))))))",
        "(letrec(lambda(n)(f n))(f(lambda(n)(if(eq n 0)1(mul n(f(sub n 1)))))))",
        "(letrec(lambda(n)(f n))(f(lambda(n)(f(add n 1)))))",
        "(lambda(x)(let(cons a(cons b(lambda()a)))(a(cons x x))(b(quote(1 . 2)))))".replace(" . ", " "),
        "(lambda (x) (add x 1))",
    };
    private static final List<String> WRONG = new ArrayList<>();
    private static final int[] ENDS = new int[10];

    private final Random chance;
    private final CountedProcessor processor;
    private final Oracle oracle;
    private final List<String> calls = new ArrayList<>();
    private boolean differs = false;

    private OracleTest(long seed) {
        chance = new Random(seed);
        int cells = chance.nextInt(4) == 0 ? chance.nextInt(500) - 100 : 24 + chance.nextInt(60);
        calls.add("new " + cells);
        processor = new CountedProcessor(cells);
        oracle = new Oracle(cells);
    }

    public static void main(String[] args) {
        for (int k = 0; k < OBJECTS && WRONG.size() < 5; k++) {
            new OracleTest(k).play();
        }
        for (String wrong : WRONG) {
            System.out.println(wrong);
        }
        StringBuilder seen = new StringBuilder("runs by status at the end of a play:");
        for (int count : ENDS) {
            seen.append(' ').append(count);
        }
        System.out.println(seen);
        if (!WRONG.isEmpty()) {
            System.exit(1);
        }
    }

    /** Nothing is promised beyond the 512th call, so none is made there. */
    private boolean hasRoom(int more) {
        return processor.calls() + more <= CountedProcessor.MOST_CALLS;
    }

    private void play() {
        while (hasRoom(LOOK_CALLS + 30) && !differs) {
            int kind = chance.nextInt(10);
            if (kind < 4) {
                type(program());
                same("compile()", processor.compile(), oracle.compile());
            }
            if (kind < 8) {
                type(argument());
                begin();
                lookAtAll();
                runOn();
            } else if (kind == 8) {
                erase();
            } else {
                int c = chance.nextInt(3) == 0 ? chance.nextInt() : chance.nextInt(140) - 5;
                same("put(" + c + ")", processor.put(c) ? 1 : 0, oracle.put(c) ? 1 : 0);
            }
        }
        lookAtAll();
        for (int address = -2; address < 515 && hasRoom(2); address++) {
            same("code(" + address + ")", processor.code(address), oracle.code(address));
        }
        ENDS[processor.status()]++;
    }

    private void erase() {
        processor.erase();
        oracle.erase();
        calls.add("erase()");
    }

    private void begin() {
        if (hasRoom(2)) {
            int fuel = chance.nextInt(3) == 0 ? chance.nextInt(400) - 5 : 8000 - chance.nextInt(10) / 9 * 7000;
            same("begin(" + fuel + ")", processor.begin(fuel), oracle.begin(fuel));
        }
    }

    private void runOn() {
        int runs = 1 + chance.nextInt(6);
        for (int k = 0; k < runs && hasRoom(2); k++) {
            int n = chance.nextInt(3) == 0 ? chance.nextInt(1010) - 5 : 1 + chance.nextInt(40);
            same("run(" + n + ")", processor.run(n), oracle.run(n));
            lookAtAll();
        }
    }

    private void type(String text) {
        if (!hasRoom(text.length() + 4)) {
            return;
        }
        if (chance.nextInt(8) != 0) {
            erase();
        }
        calls.add("type " + text);
        for (int k = 0; k < text.length(); k++) {
            same("put(" + text.charAt(k) + ")", processor.put(text.charAt(k)) ? 1 : 0,
                    oracle.put(text.charAt(k)) ? 1 : 0);
        }
    }

    private void lookAtAll() {
        if (!hasRoom(LOOK_CALLS)) {
            return;
        }
        same("status()", processor.status(), oracle.status());
        same("cycles()", processor.cycles(), oracle.cycles());
        same("address()", processor.address(), oracle.address());
        for (int register = -1; register < 4; register++) {
            same("depth(" + register + ")", processor.depth(register), oracle.depth(register));
        }
        same("used()", processor.used(), oracle.used());
        same("live()", processor.live(), oracle.live());
        same("collections()", processor.collections(), oracle.collections());
        int printed = oracle.printed();
        same("printed()", processor.printed(), printed);
        for (int k = -1; k <= printed; k++) {
            same("character(" + k + ")", processor.character(k), oracle.character(k));
        }
    }

    private void same(String call, int got, int want) {
        if (!call.startsWith("put") && !call.startsWith("depth") && !call.startsWith("char")) {
            calls.add(call);
        }
        if (got != want && !differs) {
            differs = true;
            int from = Math.max(0, calls.size() - 40);
            WRONG.add(call + " answered " + got + ", the oracle " + want + ", after " + calls.subList(from, calls.size()));
        }
    }

    private String program() {
        if (chance.nextInt(4) == 0) {
            return spoiled(PROGRAMS[chance.nextInt(PROGRAMS.length)], 5);
        }
        String body = expression(1 + chance.nextInt(5), 2);
        return spoiled("(lambda (x) " + body + ")", 12);
    }

    private String argument() {
        switch (chance.nextInt(4)) {
            case 0:
                return spoiled(datum(3), 20);
            case 1:
                return "(" + chance.nextInt(9) + " -" + chance.nextInt(999) + " 7)";
            default:
                return String.valueOf(chance.nextInt(40) - 5);
        }
    }

    private String spoiled(String text, int oneIn) {
        if (chance.nextInt(oneIn) != 0 || text.isEmpty()) {
            return text;
        }
        int at = chance.nextInt(text.length());
        String signs = " ()-01a";
        String sign = chance.nextBoolean() ? "" : String.valueOf(signs.charAt(chance.nextInt(signs.length())));
        return text.substring(0, at) + sign + text.substring(at + chance.nextInt(2));
    }

    private String pick(String[] row) {
        return row[chance.nextInt(row.length)];
    }

    private String datum(int deep) {
        int kind = chance.nextInt(deep > 0 ? 5 : 3);
        if (kind == 0) {
            return pick(NAMES);
        }
        if (kind < 3) {
            return String.valueOf(chance.nextInt(5) == 0 ? chance.nextInt(2000000000) - 1000000000 : chance.nextInt(9) - 3);
        }
        StringBuilder list = new StringBuilder("(");
        for (int parts = chance.nextInt(4); parts > 0; parts--) {
            list.append(datum(deep - 1)).append(' ');
        }
        return list.append(')').toString();
    }

    private String expression(int deep, int names) {
        int kind = chance.nextInt(deep > 0 ? 16 : 4);
        if (kind == 0) {
            return String.valueOf(chance.nextInt(6) == 0 ? 999999999 - chance.nextInt(5) : chance.nextInt(7) - 2);
        }
        if (kind < 3) {
            return NAMES[chance.nextInt(20) == 0 ? chance.nextInt(NAMES.length) : 0];
        }
        if (kind == 3) {
            return "(quote " + datum(2) + ")";
        }
        String a = expression(deep - 1, names);
        String b = expression(deep - 1, names);
        if (kind < 6) {
            return "(" + pick(ONE) + " " + a + ")";
        }
        if (kind < 10) {
            return "(" + pick(TWO) + " " + a + " " + b + ")";
        }
        switch (kind) {
            case 10:
                return "(if " + a + b + " " + expression(deep - 1, names) + ")";
            case 11:
                return "(lambda (" + pick(NAMES) + " x) " + a + ")";
            case 12:
                return "(let " + a + " (x " + b + "))";
            case 13:
                return "(let " + a + " (" + pick(NAMES) + " " + b + ") (x " + b + "))";
            case 14:
                return "(letrec " + a + " (x (lambda (" + pick(NAMES) + ") " + b + ")) (y " + datum(0) + "))";
            default:
                return "((lambda (" + (chance.nextInt(5) == 0 ? "y " : "") + "x) " + a + ") " + b + ")";
        }
    }
}
