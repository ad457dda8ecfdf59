import java.util.ArrayDeque;
import java.util.ArrayList;
import java.util.Collections;
import java.util.Deque;
import java.util.HashMap;
import java.util.IdentityHashMap;
import java.util.List;
import java.util.Map;
import java.util.Set;
import java.util.regex.Matcher;
import java.util.regex.Pattern;

/**
 * The document written down a second time, with objects, collections and exceptions: what is used
 * is counted, cells are never freed, and what can be reached is found by walking the objects.
 */
final class Oracle {
    private static final List<String> ROW = List.of("LD", "LDC", "LDF", "AP", "RTN", "DUM", "RAP", "SEL",
            "JOIN", "CAR", "CDR", "ATOM", "CONS", "EQ", "LEQ", "ADD", "SUB", "MUL", "DIV", "REM", "STOP");
    private static final Map<String, int[]> COSTS = costs();
    private static final Map<String, String> FORMS = Map.ofEntries(
            Map.entry("quote", "d"), Map.entry("car", "e"), Map.entry("cdr", "e"),
            Map.entry("atom", "e"), Map.entry("add", "ee"), Map.entry("sub", "ee"),
            Map.entry("mul", "ee"), Map.entry("div", "ee"), Map.entry("rem", "ee"),
            Map.entry("eq", "ee"), Map.entry("leq", "ee"), Map.entry("cons", "ee"),
            Map.entry("if", "eee"), Map.entry("lambda", "xe"), Map.entry("let", "e*"),
            Map.entry("letrec", "e*"));

    private static Map<String, int[]> costs() {
        Map<String, int[]> costs = new HashMap<>();
        String table = "LD 3 1,LDC 2 1,LDF 3 2,CONS 3 2,CAR 2 1,CDR 2 1,ATOM 2 1,ADD 4 2,SUB 4 2,"
                + "MUL 6 2,DIV 8 2,REM 8 2,LEQ 4 1,EQ 3 1,SEL 3 1,JOIN 2 0,AP 6 4,DUM 2 1,RAP 7 3,"
                + "RTN 4 1,STOP 1 0";
        for (String row : table.split(",")) {
            String[] words = row.split(" ");
            costs.put(words[0], new int[] {Integer.parseInt(words[1]), Integer.parseInt(words[2])});
        }
        return costs;
    }

    /** Ends a call or a run with a number. */
    private static final class Stop extends RuntimeException {
        private static final long serialVersionUID = 1L;
        final int why;

        Stop(int why) {
            super(null, null, false, false);
            this.why = why;
        }
    }

    private static final class Cell {
        final String kind;
        final Object value;
        Cell left;
        final Cell right;

        Cell(String kind, Object value, Cell left, Cell right) {
            this.kind = kind;
            this.value = value;
            this.left = left;
            this.right = right;
        }
    }

    private record Instruction(String op, int first, int second) { }

    private final int cells;
    private String text = "";
    private List<Instruction> code = null;
    private List<Object> constants = null;

    private final Map<String, Cell> lasting = new HashMap<>();
    private List<Cell> roots = null;
    private Cell s;
    private Cell e;
    private Cell d;
    private int next;
    private int fuel;
    private int status = 0;
    private int cycles;
    private int used;
    private int collections;

    Oracle(int cells) {
        this.cells = cells < 24 ? 24 : cells > 200 ? 200 : cells;
        for (String name : List.of("nil", "t", "f")) {
            lasting.put(name, new Cell("name", name, null, null));
        }
    }

    boolean put(int c) {
        if (text.length() == 200 || c < 0 || c > 127 || !String.valueOf((char) c).matches("[ ()a-z0-9-]")) {
            return false;
        }
        text += (char) c;
        return true;
    }

    void erase() {
        text = "";
    }

    int compile() {
        try {
            Object datum = read(-1);
            List<Instruction> newCode = new ArrayList<>();
            List<Object> newConstants = new ArrayList<>();
            translate(datum, List.of(), newCode, newConstants);
            newCode.add(new Instruction("AP", 0, 0));
            newCode.add(new Instruction("STOP", 0, 0));
            code = newCode;
            constants = newConstants;
            text = "";
            status = 0;
            return code.size();
        } catch (Stop stop) {
            return stop.why;
        }
    }

    int code(int address) {
        if (code == null || address < 0 || address >= code.size()) {
            return -1;
        }
        Instruction at = code.get(address);
        return ROW.indexOf(at.op) + 32 * at.first + 16384 * at.second;
    }

    int begin(int newFuel) {
        if (code == null || newFuel < 1 || newFuel > 8000) {
            return -1;
        }
        Object argument;
        try {
            argument = read(-2);
        } catch (Stop stop) {
            return stop.why;
        }
        int[] made = {3};
        List<Cell> newRoots = new ArrayList<>();
        for (Object constant : constants) {
            newRoots.add(inCells(constant, made));
        }
        Cell list = new Cell("pair", null, inCells(argument, made), lasting.get("nil"));
        made[0] += 2;
        if (made[0] > cells) {
            return -3;
        }
        text = "";
        roots = newRoots;
        s = new Cell("pair", null, list, lasting.get("nil"));
        e = lasting.get("nil");
        d = lasting.get("nil");
        next = 0;
        fuel = newFuel;
        status = 1;
        cycles = 0;
        used = made[0];
        collections = 0;
        return used;
    }

    int run(int n) {
        if (n < 1 || n > 1000 || status == 0) {
            return -1;
        }
        int done = 0;
        for (int k = 0; k < n && status == 1; k++) {
            if (cycles >= fuel) {
                status = 3;
                break;
            }
            int takes = COSTS.get(code.get(next).op)[1];
            if (cells - used < takes) {
                collections++;
                used = live();
                cycles += cells + used;
            }
            if (cells - used < takes) {
                status = 4;
                break;
            }
            done++;
            try {
                next = instruction(code.get(next));
                used += takes;
            } catch (Stop stop) {
                status = stop.why;
            }
        }
        return done;
    }

    int status() {
        return status;
    }

    int cycles() {
        return status == 0 ? -1 : cycles;
    }

    int address() {
        return status == 0 ? -1 : next;
    }

    int depth(int register) {
        if (status == 0 || register < 0 || register > 2) {
            return -1;
        }
        int count = 0;
        for (Cell at = register == 0 ? s : register == 1 ? e : d; at.right != null; at = at.right) {
            count += at.kind.equals(register == 2 ? "mark" : "pair") ? 1 : 0;
        }
        return count;
    }

    int live() {
        if (status == 0) {
            return -1;
        }
        Set<Cell> seen = Collections.newSetFromMap(new IdentityHashMap<>());
        Deque<Cell> waiting = new ArrayDeque<>(roots);
        waiting.addAll(lasting.values());
        waiting.addAll(List.of(s, e, d));
        while (!waiting.isEmpty()) {
            Cell cell = waiting.pop();
            if (seen.add(cell)) {
                if (cell.left != null) {
                    waiting.push(cell.left);
                }
                if (cell.right != null) {
                    waiting.push(cell.right);
                }
            }
        }
        return seen.size();
    }

    int used() {
        return status == 0 ? -1 : used;
    }

    int collections() {
        return status == 0 ? -1 : collections;
    }

    int printed() {
        return status == 2 ? result().length() : -1;
    }

    int character(int k) {
        return status == 2 && k >= 0 && k < result().length() ? result().charAt(k) : -1;
    }

    private String result() {
        StringBuilder out = new StringBuilder();
        print(s.left, 1, out);
        return out.substring(0, Math.min(80, out.length()));
    }

    private void print(Cell cell, int deep, StringBuilder out) {
        if (out.length() > 80) {
            return;
        }
        if (!cell.kind.equals("pair")) {
            out.append(cell.kind.equals("closure") ? "fn" : cell.value.toString());
        } else if (deep > 8) {
            out.append('#');
        } else {
            char before = '(';
            Cell at = cell;
            for (; at.kind.equals("pair"); at = at.right) {
                out.append(before);
                print(at.left, deep + 1, out);
                before = ' ';
            }
            if (at != lasting.get("nil")) {
                out.append(" . ");
                print(at, deep, out);
            }
            out.append(')');
        }
    }

    private Object read(int refusal) {
        Matcher tokens = Pattern.compile("[()]|-?[0-9]+|[a-z]+|-").matcher(text);
        Deque<List<Object>> open = new ArrayDeque<>();
        List<Object> outside = new ArrayList<>();
        open.push(outside);
        while (tokens.find()) {
            String token = tokens.group();
            if (token.equals("(")) {
                List<Object> list = new ArrayList<>();
                open.peek().add(list);
                open.push(list);
            } else if (token.equals(")")) {
                open.pop();
            } else if (token.matches("-?[0-9]{1,9}")) {
                open.peek().add(Integer.valueOf(token));
            } else if (token.matches("[a-z]{1,6}")) {
                open.peek().add(token);
            } else {
                throw new Stop(refusal);
            }
            if (open.isEmpty() || open.size() > 13) {
                throw new Stop(refusal);
            }
        }
        if (open.size() != 1 || outside.size() != 1) {
            throw new Stop(refusal);
        }
        return outside.get(0);
    }

    private static List<?> list(Object datum) {
        return (List<?>) datum;
    }

    private static boolean fits(List<?> parts, String shape) {
        if (shape.equals("e*")) {
            return parts.size() >= 2 && parts.stream().skip(2).allMatch(
                    b -> b instanceof List<?> l && l.size() == 2 && l.get(0) instanceof String);
        }
        return parts.size() == shape.length() + 1 && (!shape.equals("xe")
                || parts.get(1) instanceof List<?> l && l.stream().allMatch(x -> x instanceof String));
    }

    private static void translate(Object datum, List<List<Object>> frames,
            List<Instruction> out, List<Object> constants) {
        if (datum instanceof Integer) {
            constants.add(datum);
            out.add(new Instruction("LDC", constants.size(), 0));
        } else if (datum instanceof String) {
            for (int i = 0; i < frames.size(); i++) {
                int j = frames.get(i).indexOf(datum);
                if (j >= 0) {
                    out.add(new Instruction("LD", i, j));
                    return;
                }
            }
            throw new Stop(-3);
        } else {
            translateList(list(datum), frames, out, constants);
        }
    }

    private static void translateList(List<?> parts, List<List<Object>> frames,
            List<Instruction> out, List<Object> constants) {
        Object shape = parts.isEmpty() ? null : FORMS.get(parts.get(0).toString());
        if (parts.isEmpty() || shape != null && !fits(parts, shape.toString())) {
            throw new Stop(-2);
        }
        if (shape == null) {
            translateRow(parts.subList(1, parts.size()), frames, out, constants);
            translate(parts.get(0), frames, out, constants);
            out.add(new Instruction("AP", 0, 0));
            return;
        }
        String form = parts.get(0).toString();
        switch (form) {
            case "quote" -> {
                constants.add(parts.get(1));
                out.add(new Instruction("LDC", constants.size(), 0));
            }
            case "cons" -> {
                translate(parts.get(2), frames, out, constants);
                translate(parts.get(1), frames, out, constants);
                out.add(new Instruction("CONS", 0, 0));
            }
            case "if" -> {
                translate(parts.get(1), frames, out, constants);
                int select = out.size();
                out.add(null);
                translate(parts.get(2), frames, out, constants);
                out.add(new Instruction("JOIN", 0, 0));
                int p = out.size();
                translate(parts.get(3), frames, out, constants);
                out.add(new Instruction("JOIN", 0, 0));
                out.set(select, new Instruction("SEL", p, out.size()));
            }
            case "lambda" -> translateFunction(parts.get(2), with(list(parts.get(1)), frames), out, constants);
            case "let", "letrec" -> {
                List<Object> names = new ArrayList<>();
                List<Object> values = new ArrayList<>();
                for (Object binding : parts.subList(2, parts.size())) {
                    names.add(list(binding).get(0));
                    values.add(list(binding).get(1));
                }
                boolean recursive = form.equals("letrec");
                if (recursive) {
                    out.add(new Instruction("DUM", 0, 0));
                }
                translateRow(values, recursive ? with(names, frames) : frames, out, constants);
                translateFunction(parts.get(1), with(names, frames), out, constants);
                out.add(new Instruction(recursive ? "RAP" : "AP", 0, 0));
            }
            default -> {
                for (Object part : parts.subList(1, parts.size())) {
                    translate(part, frames, out, constants);
                }
                out.add(new Instruction(form.toUpperCase(), 0, 0));
            }
        }
    }

    private static List<List<Object>> with(List<?> names, List<List<Object>> frames) {
        List<List<Object>> more = new ArrayList<>();
        more.add(new ArrayList<>(names));
        more.addAll(frames);
        return more;
    }

    private static void translateFunction(Object body, List<List<Object>> frames,
            List<Instruction> out, List<Object> constants) {
        int load = out.size();
        out.add(null);
        translate(body, frames, out, constants);
        out.add(new Instruction("RTN", 0, 0));
        out.set(load, new Instruction("LDF", out.size(), 0));
    }

    private static void translateRow(List<?> row, List<List<Object>> frames,
            List<Instruction> out, List<Object> constants) {
        out.add(new Instruction("LDC", 0, 0));
        for (int k = row.size() - 1; k >= 0; k--) {
            translate(row.get(k), frames, out, constants);
            out.add(new Instruction("CONS", 0, 0));
        }
    }

    private Cell inCells(Object datum, int[] made) {
        if (datum instanceof List<?> parts) {
            if (parts.isEmpty()) {
                return lasting.get("nil");
            }
            made[0]++;
            return new Cell("pair", null, inCells(parts.get(0), made),
                    inCells(parts.subList(1, parts.size()), made));
        }
        if (lasting.containsKey(datum)) {
            return lasting.get(datum);
        }
        made[0]++;
        return new Cell(datum instanceof Integer ? "number" : "name", datum, null, null);
    }

    private static Cell pair(Cell head, Cell tail) {
        return new Cell("pair", null, head, tail);
    }

    private static Cell need(Cell cell, String kind, int why) {
        if (!cell.kind.equals(kind)) {
            throw new Stop(why);
        }
        return cell;
    }

    private Cell truth(boolean answer) {
        return lasting.get(answer ? "t" : "f");
    }

    private static boolean isAtom(Cell cell) {
        return cell.kind.equals("number") || cell.kind.equals("name");
    }

    /** Answers the address to go on at. */
    private int instruction(Instruction at) {
        cycles += COSTS.get(at.op)[0];
        int behind = next + 1;
        switch (at.op) {
            case "LD" -> {
                cycles += at.first + at.second;
                Cell frame = e;
                for (int i = 0; i < at.first; i++) {
                    frame = need(frame, "pair", 5).right;
                }
                Cell values = need(frame, "pair", 5).left;
                for (int j = 0; j < at.second; j++) {
                    values = need(values, "pair", 5).right;
                }
                s = pair(need(values, "pair", 5).left, s);
            }
            case "LDC" -> s = pair(at.first == 0 ? lasting.get("nil") : roots.get(at.first - 1), s);
            case "LDF" -> {
                s = pair(new Cell("closure", behind, null, e), s);
                return at.first;
            }
            case "CONS" -> s = pair(pair(s.left, s.right.left), s.right.right);
            case "CAR" -> s = pair(need(s.left, "pair", 6).left, s.right);
            case "CDR" -> s = pair(need(s.left, "pair", 6).right, s.right);
            case "ATOM" -> s = pair(truth(isAtom(s.left)), s.right);
            case "EQ" -> s = pair(truth(isAtom(s.left) && s.left.kind.equals(s.right.left.kind)
                    && s.left.value.equals(s.right.left.value)), s.right.right);
            case "SEL" -> {
                boolean yes = s.left == lasting.get("t");
                s = s.right;
                d = new Cell("mark", at.second, null, d);
                return yes ? behind : at.first;
            }
            case "JOIN" -> {
                int address = (Integer) d.value;
                d = d.right;
                return address;
            }
            case "AP" -> {
                Cell closure = need(s.left, "closure", 9);
                d = pair(s.right.right, pair(e, new Cell("mark", behind, null, d)));
                e = pair(s.right.left, closure.right);
                s = lasting.get("nil");
                return (Integer) closure.value;
            }
            case "DUM" -> e = pair(lasting.get("nil"), e);
            case "RAP" -> {
                Cell closure = s.left;
                d = pair(s.right.right, pair(e.right, new Cell("mark", behind, null, d)));
                closure.right.left = s.right.left;
                e = closure.right;
                s = lasting.get("nil");
                return (Integer) closure.value;
            }
            case "RTN" -> {
                s = pair(s.left, d.left);
                e = d.right.left;
                Cell mark = d.right.right;
                d = mark.right;
                return (Integer) mark.value;
            }
            case "STOP" -> throw new Stop(2);
            default -> {
                long b = (Integer) needNumber(s.left).value;
                long a = (Integer) needNumber(s.right.left).value;
                s = pair(count(at.op, a, b), s.right.right);
            }
        }
        return behind;
    }

    private Cell needNumber(Cell cell) {
        return need(cell, "number", 7);
    }

    private Cell count(String op, long a, long b) {
        if (op.equals("LEQ")) {
            return truth(a <= b);
        }
        if (b == 0 && (op.equals("DIV") || op.equals("REM"))) {
            throw new Stop(8);
        }
        long answer = switch (op) {
            case "ADD" -> a + b;
            case "SUB" -> a - b;
            case "MUL" -> a * b;
            case "DIV" -> a / b;
            default -> a % b;
        };
        return new Cell("number", (int) answer, null, null);
    }
}
