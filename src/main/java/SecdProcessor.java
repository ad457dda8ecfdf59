/**
 * A processor for a small Lisp: texts are read and compiled for a machine with the registers
 * S, E, C, D, which runs over a memory of cells and collects those that are out of reach.
 */
public final class SecdProcessor {
    private static final int NONE = -1;
    private static final int TEXT_LIMIT = 200;
    private static final int NEST_LIMIT = 12;
    private static final int LEAST_CELLS = 24;
    private static final int MOST_CELLS = 200;
    private static final int MOST_FUEL = 8000;
    private static final int MOST_STEPS = 1000;

    private final char[] text;
    private int length;
    private final Datum argument;
    private final Program program;
    private final Program draft;
    private final Translator translator;
    private final Machine machine;

    public SecdProcessor(int cells) {
        text = new char[TEXT_LIMIT];
        length = 0;
        argument = new Datum();
        program = new Program();
        draft = new Program();
        translator = new Translator(draft);
        machine = new Machine(program, Math.max(LEAST_CELLS, Math.min(MOST_CELLS, cells)));
    }

    public boolean put(int c) {
        if (!isTextCharacter(c) || length >= TEXT_LIMIT) {
            return false;
        }
        text[length] = (char) c;
        length++;
        return true;
    }

    public void erase() {
        length = 0;
    }

    public int compile() {
        if (!draft.datum.read(text, length)) {
            return -1;
        }
        int error = translator.translate();
        if (error != 0) {
            return error;
        }
        program.copyFrom(draft);
        machine.dropRun();
        length = 0;
        return program.size;
    }

    public int code(int address) {
        return program.wordAt(address);
    }

    public int begin(int fuel) {
        if (program.size == 0 || fuel < 1 || fuel > MOST_FUEL) {
            return -1;
        }
        if (!argument.read(text, length)) {
            return -2;
        }
        int needed = machine.cellsFor(argument);
        if (needed > machine.memory.size) {
            return -3;
        }
        machine.start(argument, fuel);
        length = 0;
        return needed;
    }

    public int run(int n) {
        if (n < 1 || n > MOST_STEPS || machine.hasNoRun()) {
            return -1;
        }
        return machine.advance(n);
    }

    public int status() {
        return machine.state;
    }

    public int cycles() {
        return machine.hasNoRun() ? -1 : machine.spent;
    }

    public int address() {
        return machine.hasNoRun() ? -1 : machine.next;
    }

    public int depth(int register) {
        if (machine.hasNoRun()) {
            return -1;
        }
        switch (register) {
            case 0:
                return machine.memory.pairsFrom(machine.s);
            case 1:
                return machine.memory.pairsFrom(machine.e);
            case 2:
                return machine.memory.marksFrom(machine.d);
            default:
                return -1;
        }
    }

    public int live() {
        return machine.hasNoRun() ? -1 : machine.reachLive();
    }

    public int used() {
        return machine.hasNoRun() ? -1 : machine.memory.size - machine.memory.freeCount;
    }

    public int collections() {
        return machine.hasNoRun() ? -1 : machine.collected;
    }

    public int printed() {
        return machine.state == Machine.DONE ? machine.printer.out.length() : -1;
    }

    public int character(int k) {
        if (machine.state != Machine.DONE || k < 0 || k >= machine.printer.out.length()) {
            return -1;
        }
        return machine.printer.out.charAt(k);
    }

    private static boolean isTextCharacter(int c) {
        return c == ' ' || c == '(' || c == ')' || c == '-' || isDigit(c) || isLetter(c);
    }

    private static boolean isDigit(int c) {
        return c >= '0' && c <= '9';
    }

    private static boolean isLetter(int c) {
        return c >= 'a' && c <= 'z';
    }

    /** Names are held as numbers, five bits a letter, so that equal names are equal numbers. */
    private static final class Names {
        static final int BITS = 5;
        static final int MOST_LETTERS = 6;
        static final int NIL = (('n' - 'a' + 1) << 10) + (('i' - 'a' + 1) << 5) + ('l' - 'a' + 1);
        static final int T = 't' - 'a' + 1;
        static final int F = 'f' - 'a' + 1;

        static int withLetter(int name, char letter) {
            return (name << BITS) + (letter - 'a' + 1);
        }

        static boolean isLasting(int name) {
            return name == NIL || name == T || name == F;
        }

        static void append(StringBuilder out, int name) {
            for (int k = MOST_LETTERS - 1; k >= 0; k--) {
                int letter = (name >> (BITS * k)) & 31;
                if (letter != 0) {
                    out.append((char) ('a' + letter - 1));
                }
            }
        }
    }

    /** The instructions, and how one of them is packed into the number that code() tells. */
    private static final class Op {
        static final int LD = 0;
        static final int LDC = 1;
        static final int LDF = 2;
        static final int AP = 3;
        static final int RTN = 4;
        static final int DUM = 5;
        static final int RAP = 6;
        static final int SEL = 7;
        static final int JOIN = 8;
        static final int CAR = 9;
        static final int CDR = 10;
        static final int ATOM = 11;
        static final int CONS = 12;
        static final int EQ = 13;
        static final int LEQ = 14;
        static final int ADD = 15;
        static final int SUB = 16;
        static final int MUL = 17;
        static final int DIV = 18;
        static final int REM = 19;
        static final int STOP = 20;
        static final int FIRST = 32;
        static final int SECOND = 16384;

        private static final int[] CYCLES =
                {3, 2, 3, 6, 4, 2, 7, 3, 2, 2, 2, 2, 3, 3, 4, 4, 4, 6, 8, 8, 1};
        private static final int[] CELLS =
                {1, 1, 2, 4, 1, 1, 3, 1, 0, 1, 1, 1, 2, 1, 1, 2, 2, 2, 2, 2, 0};

        /** No code leads outside of itself; if one did, the machine would stop there. */
        static int opOf(int word) {
            return word < 0 ? STOP : Math.min(word % FIRST, STOP);
        }

        static int firstOf(int word) {
            return word % SECOND / FIRST;
        }

        static int secondOf(int word) {
            return word / SECOND;
        }

        static int cyclesOf(int word) {
            int op = opOf(word);
            return op == LD ? CYCLES[LD] + firstOf(word) + secondOf(word) : CYCLES[op];
        }

        static int cellsOf(int word) {
            return CELLS[opOf(word)];
        }
    }

    /**
     * A datum as it was read. Its nodes lie in rows in the order of their first characters, the
     * datum itself at ROOT; every node takes a character at least, so that the rows are long enough.
     */
    private static final class Datum {
        static final int ROOT = 0;
        static final int NUMBER = 0;
        static final int NAME = 1;
        static final int LIST = 2;
        private static final int MOST_DIGITS = 9;

        private final int[] kinds = new int[TEXT_LIMIT];
        private final int[] values = new int[TEXT_LIMIT];
        private final int[] followers = new int[TEXT_LIMIT];
        private int count = 0;
        private final int[] openLists = new int[NEST_LIMIT];
        private final int[] lastParts = new int[NEST_LIMIT];
        private int openCount = 0;

        boolean read(char[] text, int length) {
            count = 0;
            openCount = 0;
            int at = 0;
            while (at < length) {
                int end = readOne(text, length, at);
                if (end <= at) {
                    return false;
                }
                at = end;
            }
            return count > 0 && openCount == 0;
        }

        void copyFrom(Datum other) {
            System.arraycopy(other.kinds, 0, kinds, 0, other.count);
            System.arraycopy(other.values, 0, values, 0, other.count);
            System.arraycopy(other.followers, 0, followers, 0, other.count);
            count = other.count;
        }

        int kindOf(int node) {
            return kinds[node];
        }

        int valueOf(int node) {
            return values[node];
        }

        int followerOf(int node) {
            return followers[node];
        }

        int firstPartOf(int node) {
            return kinds[node] == LIST ? values[node] : NONE;
        }

        /** How many parts a list has from this one on; NONE stands for no part. */
        int countFrom(int part) {
            int parts = 0;
            int node = part;
            while (node != NONE && parts < count) {
                parts++;
                node = followers[node];
            }
            return parts;
        }

        int partBehind(int part, int steps) {
            int node = part;
            for (int k = 0; k < steps && node != NONE; k++) {
                node = followers[node];
            }
            return node;
        }

        /** Answers where that which begins at a place ends, or NONE if it cannot stand there. */
        private int readOne(char[] text, int length, int at) {
            char c = text[at];
            if (c == ' ') {
                return at + 1;
            }
            if (c == '(') {
                return openList() ? at + 1 : NONE;
            }
            if (c == ')') {
                return closeList() ? at + 1 : NONE;
            }
            return isLetter(c) ? readName(text, length, at) : readNumber(text, length, at);
        }

        private boolean openList() {
            if (openCount >= NEST_LIMIT || !addNode(LIST, NONE)) {
                return false;
            }
            openLists[openCount] = count - 1;
            lastParts[openCount] = NONE;
            openCount++;
            return true;
        }

        private boolean closeList() {
            if (openCount == 0) {
                return false;
            }
            openCount--;
            return true;
        }

        private int readName(char[] text, int length, int at) {
            int name = 0;
            int end = at;
            while (end < length && isLetter(text[end])) {
                name = Names.withLetter(name, text[end]);
                end++;
            }
            return end - at <= Names.MOST_LETTERS && addNode(NAME, name) ? end : NONE;
        }

        private int readNumber(char[] text, int length, int at) {
            boolean negative = text[at] == '-';
            int start = negative ? at + 1 : at;
            int value = 0;
            int end = start;
            while (end < length && isDigit(text[end])) {
                value = 10 * value + (text[end] - '0');
                end++;
            }
            boolean fits = end > start && end - start <= MOST_DIGITS;
            return fits && addNode(NUMBER, negative ? -value : value) ? end : NONE;
        }

        /** Refuses a second datum outside of all lists. */
        private boolean addNode(int kind, int value) {
            if (count >= TEXT_LIMIT || openCount == 0 && count > 0) {
                return false;
            }
            kinds[count] = kind;
            values[count] = value;
            followers[count] = NONE;
            if (openCount > 0) {
                addPart(openCount - 1, count);
            }
            count++;
            return true;
        }

        private void addPart(int level, int node) {
            if (lastParts[level] == NONE) {
                values[openLists[level]] = node;
            } else {
                followers[lastParts[level]] = node;
            }
            lastParts[level] = node;
        }
    }

    /** The code and the constants; a constant is told by its node in the datum of the program. */
    private static final class Program {
        // A text of 200 characters makes some 400 instructions; an address must stay below 512.
        private static final int CODE_LIMIT = 512;

        final Datum datum = new Datum();
        private final int[] words = new int[CODE_LIMIT];
        int size = 0;
        private final int[] constants = new int[TEXT_LIMIT + 1];
        int lastConstant = 0;

        void clear() {
            size = 0;
            lastConstant = 0;
        }

        void copyFrom(Program other) {
            datum.copyFrom(other.datum);
            System.arraycopy(other.words, 0, words, 0, other.size);
            size = other.size;
            System.arraycopy(other.constants, 0, constants, 0, other.lastConstant + 1);
            lastConstant = other.lastConstant;
        }

        int wordAt(int address) {
            return address >= 0 && address < size ? words[address] : NONE;
        }

        int constantNode(int k) {
            return constants[k];
        }

        int addConstant(int node) {
            if (lastConstant < TEXT_LIMIT) {
                lastConstant++;
                constants[lastConstant] = node;
            }
            return lastConstant;
        }

        /** Answers the address of the instruction. */
        int emit(int op, int first, int second) {
            int address = size;
            if (size < CODE_LIMIT) {
                words[size] = op + Op.FIRST * first + Op.SECOND * second;
                size++;
            }
            return address;
        }

        /** For addresses ahead: the instruction was put out with 0 in their places. */
        void addAddresses(int address, int first, int second) {
            if (address < size) {
                words[address] += Op.FIRST * first + Op.SECOND * second;
            }
        }
    }

    /** Translates the datum of a program into its code; NEST_LIMIT bounds how deep this goes. */
    private static final class Translator {
        private static final int ERROR_FORM = -2;
        private static final int ERROR_UNBOUND = -3;

        // The first eleven stand in the order of their instructions, from CAR on.
        private static final String FORM_WORDS =
                "car cdr atom cons eq leq add sub mul div rem quote if lambda let letrec";
        private static final int FORM_COUNT = 16;
        private static final int FORM_ATOM = 2;
        private static final int FORM_CONS = 3;
        private static final int FORM_QUOTE = 11;
        private static final int FORM_IF = 12;
        private static final int FORM_LAMBDA = 13;
        private static final int FORM_LET = 14;
        private static final int FORM_LETREC = 15;

        private final Program program;
        private final Datum datum;
        private final int[] formNames;
        private final int[] frames = new int[NEST_LIMIT];
        private int frameCount = 0;
        private int error = 0;

        Translator(Program program) {
            this.program = program;
            datum = program.datum;
            formNames = new int[FORM_COUNT];
            int form = 0;
            for (int k = 0; k < FORM_WORDS.length() && form < FORM_COUNT; k++) {
                char c = FORM_WORDS.charAt(k);
                if (c == ' ') {
                    form++;
                } else {
                    formNames[form] = Names.withLetter(formNames[form], c);
                }
            }
        }

        /** Answers 0, or the first error in the order of putting out. */
        int translate() {
            program.clear();
            frameCount = 0;
            error = 0;
            expression(Datum.ROOT);
            program.emit(Op.AP, 0, 0);
            program.emit(Op.STOP, 0, 0);
            return error;
        }

        /** Looks at nothing behind an error, so that the first one is the one that is told. */
        private void expression(int node) {
            if (error != 0) {
                return;
            }
            switch (datum.kindOf(node)) {
                case Datum.NUMBER:
                    constant(node);
                    break;
                case Datum.NAME:
                    variable(datum.valueOf(node));
                    break;
                default:
                    list(node);
                    break;
            }
        }

        private void constant(int node) {
            program.emit(Op.LDC, program.addConstant(node), 0);
        }

        private void variable(int name) {
            for (int i = 0; i < frameCount; i++) {
                int j = placeIn(frames[frameCount - 1 - i], name);
                if (j != NONE) {
                    program.emit(Op.LD, i, j);
                    return;
                }
            }
            error = ERROR_UNBOUND;
        }

        /** A frame is told by its first member: a name, or a list that begins with the name. */
        private int placeIn(int firstMember, int name) {
            int members = datum.countFrom(firstMember);
            int member = firstMember;
            for (int j = 0; j < members; j++) {
                boolean inList = datum.kindOf(member) == Datum.LIST;
                if (datum.valueOf(inList ? datum.firstPartOf(member) : member) == name) {
                    return j;
                }
                member = datum.followerOf(member);
            }
            return NONE;
        }

        private void list(int node) {
            int first = datum.firstPartOf(node);
            int form = first == NONE ? NONE : formOf(first);
            if (first == NONE || form != NONE && !hasItsParts(form, first)) {
                error = ERROR_FORM;
            } else if (form == NONE) {
                arguments(datum.followerOf(first));
                expression(first);
                program.emit(Op.AP, 0, 0);
            } else {
                form(form, datum.followerOf(first));
            }
        }

        private int formOf(int node) {
            if (datum.kindOf(node) != Datum.NAME) {
                return NONE;
            }
            for (int form = 0; form < FORM_COUNT; form++) {
                if (formNames[form] == datum.valueOf(node)) {
                    return form;
                }
            }
            return NONE;
        }

        private boolean hasItsParts(int form, int first) {
            int parts = datum.countFrom(first);
            switch (form) {
                case FORM_QUOTE:
                    return parts == 2;
                case FORM_IF:
                    return parts == 4;
                case FORM_LAMBDA:
                    return parts == 3 && isListOfNames(datum.followerOf(first));
                case FORM_LET:
                case FORM_LETREC:
                    return parts >= 2 && areBindings(datum.partBehind(first, 2));
                default:
                    return parts == (form <= FORM_ATOM ? 2 : 3);
            }
        }

        private boolean isListOfNames(int node) {
            if (datum.kindOf(node) != Datum.LIST) {
                return false;
            }
            int part = datum.firstPartOf(node);
            int parts = datum.countFrom(part);
            for (int k = 0; k < parts; k++) {
                if (datum.kindOf(part) != Datum.NAME) {
                    return false;
                }
                part = datum.followerOf(part);
            }
            return true;
        }

        private boolean areBindings(int firstBinding) {
            int bindings = datum.countFrom(firstBinding);
            int binding = firstBinding;
            for (int k = 0; k < bindings; k++) {
                int name = datum.firstPartOf(binding);
                if (datum.countFrom(name) != 2 || datum.kindOf(name) != Datum.NAME) {
                    return false;
                }
                binding = datum.followerOf(binding);
            }
            return true;
        }

        private void form(int form, int second) {
            int third = datum.followerOf(second);
            switch (form) {
                case FORM_QUOTE:
                    constant(second);
                    break;
                case FORM_IF:
                    choice(second);
                    break;
                case FORM_LAMBDA:
                    function(datum.firstPartOf(second), third);
                    break;
                case FORM_LET:
                    bindingValues(third);
                    function(third, second);
                    program.emit(Op.AP, 0, 0);
                    break;
                case FORM_LETREC:
                    recursion(third, second);
                    break;
                default:
                    operation(form, second);
                    break;
            }
        }

        private void operation(int form, int first) {
            int second = datum.followerOf(first);
            if (form == FORM_CONS) {
                expression(second);
                expression(first);
            } else {
                expression(first);
                if (form > FORM_ATOM) {
                    expression(second);
                }
            }
            program.emit(Op.CAR + form, 0, 0);
        }

        private void choice(int condition) {
            int then = datum.followerOf(condition);
            expression(condition);
            int select = program.emit(Op.SEL, 0, 0);
            expression(then);
            program.emit(Op.JOIN, 0, 0);
            int otherwise = program.size;
            expression(datum.followerOf(then));
            program.emit(Op.JOIN, 0, 0);
            program.addAddresses(select, otherwise, program.size);
        }

        private void function(int firstMember, int body) {
            int load = program.emit(Op.LDF, 0, 0);
            enterFrame(firstMember);
            expression(body);
            leaveFrame();
            program.emit(Op.RTN, 0, 0);
            program.addAddresses(load, program.size, 0);
        }

        private void recursion(int firstBinding, int body) {
            program.emit(Op.DUM, 0, 0);
            enterFrame(firstBinding);
            bindingValues(firstBinding);
            leaveFrame();
            function(firstBinding, body);
            program.emit(Op.RAP, 0, 0);
        }

        private void arguments(int firstArgument) {
            program.emit(Op.LDC, 0, 0);
            for (int k = datum.countFrom(firstArgument) - 1; k >= 0; k--) {
                expression(datum.partBehind(firstArgument, k));
                program.emit(Op.CONS, 0, 0);
            }
        }

        private void bindingValues(int firstBinding) {
            program.emit(Op.LDC, 0, 0);
            for (int k = datum.countFrom(firstBinding) - 1; k >= 0; k--) {
                int binding = datum.partBehind(firstBinding, k);
                expression(datum.followerOf(datum.firstPartOf(binding)));
                program.emit(Op.CONS, 0, 0);
            }
        }

        private void enterFrame(int firstMember) {
            if (frameCount < NEST_LIMIT) {
                frames[frameCount] = firstMember;
                frameCount++;
            }
        }

        private void leaveFrame() {
            if (frameCount > 0) {
                frameCount--;
            }
        }
    }

    /**
     * The cells. A number or name has its value on the left; a pair its head on the left and its
     * tail on the right; a closure or mark its address on the left and its cell on the right.
     */
    private static final class Memory {
        static final int NUMBER = 0;
        static final int NAME = 1;
        static final int PAIR = 2;
        static final int CLOSURE = 3;
        static final int MARK = 4;
        static final int NIL = 0;
        static final int T = 1;
        static final int F = 2;
        static final int LASTING = 3;

        final int size;
        private final int[] kinds;
        private final int[] lefts;
        private final int[] rights;
        private final int[] free;
        int freeCount;
        private final boolean[] isReached;
        private final int[] reached;
        private int reachedCount;

        Memory(int size) {
            this.size = size;
            kinds = new int[size];
            lefts = new int[size];
            rights = new int[size];
            free = new int[size];
            freeCount = 0;
            isReached = new boolean[size];
            reached = new int[size];
            reachedCount = 0;
        }

        /** Leaves the three lasting names alone. */
        void clear() {
            setName(NIL, Names.NIL);
            setName(T, Names.T);
            setName(F, Names.F);
            beginReach();
            freeUnreached();
        }

        private void setName(int cell, int name) {
            kinds[cell] = NAME;
            lefts[cell] = name;
        }

        private int take(int kind, int left, int right) {
            if (freeCount == 0) {
                return NIL;
            }
            freeCount--;
            int cell = free[freeCount];
            kinds[cell] = kind;
            lefts[cell] = left;
            rights[cell] = right;
            return cell;
        }

        int newNumber(int value) {
            return take(NUMBER, value, NIL);
        }

        int nameCell(int name) {
            switch (name) {
                case Names.NIL:
                    return NIL;
                case Names.T:
                    return T;
                case Names.F:
                    return F;
                default:
                    return take(NAME, name, NIL);
            }
        }

        int newPair(int head, int tail) {
            return take(PAIR, head, tail);
        }

        int newClosure(int address, int cell) {
            return take(CLOSURE, address, cell);
        }

        int newMark(int address, int cell) {
            return take(MARK, address, cell);
        }

        int kindOf(int cell) {
            return kinds[cell];
        }

        boolean isPair(int cell) {
            return kinds[cell] == PAIR;
        }

        int valueOf(int cell) {
            return lefts[cell];
        }

        int headOf(int cell) {
            return kinds[cell] == PAIR ? lefts[cell] : NIL;
        }

        int tailOf(int cell) {
            return kinds[cell] == PAIR ? rights[cell] : NIL;
        }

        void setHead(int cell, int head) {
            if (isPair(cell)) {
                lefts[cell] = head;
            }
        }

        private boolean hasAddress(int cell) {
            return kinds[cell] == CLOSURE || kinds[cell] == MARK;
        }

        int addressOf(int cell) {
            return hasAddress(cell) ? lefts[cell] : 0;
        }

        int cellOf(int cell) {
            return hasAddress(cell) ? rights[cell] : NIL;
        }

        /** The pair that lies some tails behind, or NONE if one on the way there is no pair. */
        int pairBehind(int cell, int tails) {
            int at = cell;
            for (int k = 0; k < tails && isPair(at); k++) {
                at = rights[at];
            }
            return isPair(at) ? at : NONE;
        }

        int pairsFrom(int cell) {
            int pairs = 0;
            int at = cell;
            while (pairs < size && isPair(at)) {
                pairs++;
                at = rights[at];
            }
            return pairs;
        }

        int marksFrom(int cell) {
            int marks = 0;
            int at = cell;
            for (int k = 0; k < size && (isPair(at) || hasAddress(at)); k++) {
                if (!isPair(at)) {
                    marks++;
                }
                at = rights[at];
            }
            return marks;
        }

        void beginReach() {
            for (int cell = 0; cell < size; cell++) {
                isReached[cell] = false;
            }
            reachedCount = 0;
            for (int cell = 0; cell < LASTING; cell++) {
                reach(cell);
            }
        }

        /** A cell is put into the row once at most, so that the row is long enough. */
        void reach(int cell) {
            if (!isReached[cell]) {
                isReached[cell] = true;
                reached[reachedCount] = cell;
                reachedCount++;
            }
        }

        /** Answers how many cells can be reached from those that were reached before. */
        int spreadReach() {
            for (int k = 0; k < size && k < reachedCount; k++) {
                int cell = reached[k];
                if (isPair(cell)) {
                    reach(lefts[cell]);
                }
                if (isPair(cell) || hasAddress(cell)) {
                    reach(rights[cell]);
                }
            }
            return reachedCount;
        }

        void freeUnreached() {
            freeCount = 0;
            for (int cell = size - 1; cell >= 0; cell--) {
                if (!isReached[cell]) {
                    free[freeCount] = cell;
                    freeCount++;
                }
            }
        }
    }

    /** Prints a result; what goes beyond the limit, a list left in the middle too, is cut. */
    private static final class Printer {
        private static final int PRINT_LIMIT = 80;
        private static final int DEPTH_LIMIT = 8;

        private final Memory memory;
        final StringBuilder out = new StringBuilder();

        Printer(Memory memory) {
            this.memory = memory;
        }

        void print(int cell) {
            out.setLength(0);
            show(cell, 1);
            if (out.length() > PRINT_LIMIT) {
                out.setLength(PRINT_LIMIT);
            }
        }

        /** Cells may be shared many times over: without the end at the limit this could take ages. */
        private boolean isFull() {
            return out.length() >= PRINT_LIMIT;
        }

        private void show(int cell, int depth) {
            if (isFull()) {
                return;
            }
            switch (memory.kindOf(cell)) {
                case Memory.NUMBER:
                    out.append(memory.valueOf(cell));
                    break;
                case Memory.NAME:
                    Names.append(out, memory.valueOf(cell));
                    break;
                case Memory.PAIR:
                    showPair(cell, depth);
                    break;
                default:
                    out.append("fn");
                    break;
            }
        }

        private void showPair(int pair, int depth) {
            if (depth > DEPTH_LIMIT) {
                out.append('#');
                return;
            }
            out.append('(');
            show(memory.headOf(pair), depth + 1);
            int rest = memory.tailOf(pair);
            for (int k = 0; k < PRINT_LIMIT && memory.isPair(rest) && !isFull(); k++) {
                out.append(' ');
                show(memory.headOf(rest), depth + 1);
                rest = memory.tailOf(rest);
            }
            if (rest != Memory.NIL) {
                out.append(" . ");
                show(rest, depth);
            }
            out.append(')');
        }
    }

    /** The registers and the run. */
    private static final class Machine {
        static final int NO_RUN = 0;
        static final int RUNNING = 1;
        static final int DONE = 2;
        static final int TIRED = 3;
        static final int FULL = 4;
        static final int SHORT = 5;
        static final int UNPAIRED = 6;
        static final int UNCOUNTED = 7;
        static final int ZERO = 8;
        static final int UNCALLABLE = 9;

        private final Program program;
        final Memory memory;
        final Printer printer;
        private final int[] constants = new int[TEXT_LIMIT + 1];
        private int lastConstant = 0;
        int s = Memory.NIL;
        int e = Memory.NIL;
        int d = Memory.NIL;
        int next = 0;
        int state = NO_RUN;
        int spent = 0;
        private int fuel = 0;
        int collected = 0;

        Machine(Program program, int cells) {
            this.program = program;
            memory = new Memory(cells);
            printer = new Printer(memory);
        }

        boolean hasNoRun() {
            return state == NO_RUN;
        }

        void dropRun() {
            state = NO_RUN;
        }

        /** How many cells are used when a run with this argument begins. */
        int cellsFor(Datum argument) {
            int cells = Memory.LASTING + 2 + cellsOf(argument, Datum.ROOT);
            for (int k = 1; k <= program.lastConstant; k++) {
                cells += cellsOf(program.datum, program.constantNode(k));
            }
            return cells;
        }

        /** Lists in a datum lie in one another up to NEST_LIMIT deep, and so does this. */
        private static int cellsOf(Datum datum, int node) {
            if (datum.kindOf(node) == Datum.NUMBER) {
                return 1;
            }
            if (datum.kindOf(node) == Datum.NAME) {
                return Names.isLasting(datum.valueOf(node)) ? 0 : 1;
            }
            int part = datum.firstPartOf(node);
            int parts = datum.countFrom(part);
            int cells = parts;
            for (int k = 0; k < parts; k++) {
                cells += cellsOf(datum, part);
                part = datum.followerOf(part);
            }
            return cells;
        }

        private static int cellFor(Memory memory, Datum datum, int node) {
            if (datum.kindOf(node) == Datum.NUMBER) {
                return memory.newNumber(datum.valueOf(node));
            }
            if (datum.kindOf(node) == Datum.NAME) {
                return memory.nameCell(datum.valueOf(node));
            }
            int first = datum.firstPartOf(node);
            int list = Memory.NIL;
            for (int k = datum.countFrom(first) - 1; k >= 0; k--) {
                list = memory.newPair(cellFor(memory, datum, datum.partBehind(first, k)), list);
            }
            return list;
        }

        /** The caller has seen that there are cellsFor(argument) cells: none is collected here. */
        void start(Datum argument, int fuel) {
            memory.clear();
            lastConstant = program.lastConstant;
            constants[0] = Memory.NIL;
            for (int k = 1; k <= lastConstant; k++) {
                constants[k] = cellFor(memory, program.datum, program.constantNode(k));
            }
            int list = memory.newPair(cellFor(memory, argument, Datum.ROOT), Memory.NIL);
            s = memory.newPair(list, Memory.NIL);
            e = Memory.NIL;
            d = Memory.NIL;
            next = 0;
            state = RUNNING;
            spent = 0;
            this.fuel = fuel;
            collected = 0;
        }

        /** Answers how many instructions were done. */
        int advance(int steps) {
            int done = 0;
            for (int k = 0; k < steps && state == RUNNING; k++) {
                if (step()) {
                    done++;
                }
            }
            if (done > 0 && state == DONE) {
                printer.print(memory.headOf(s));
            }
            return done;
        }

        /** Answers whether an instruction was done. */
        private boolean step() {
            if (spent >= fuel) {
                state = TIRED;
                return false;
            }
            int word = program.wordAt(next);
            if (!makeRoom(Op.cellsOf(word))) {
                state = FULL;
                return false;
            }
            spent += Op.cyclesOf(word);
            int here = next;
            next = here + 1;
            execute(word);
            if (state != RUNNING) {
                next = here;
            }
            return true;
        }

        private boolean makeRoom(int cells) {
            if (memory.freeCount < cells) {
                int live = reachLive();
                memory.freeUnreached();
                spent += memory.size + live;
                collected++;
            }
            return memory.freeCount >= cells;
        }

        /** Answers how many cells are live. */
        int reachLive() {
            memory.beginReach();
            memory.reach(s);
            memory.reach(e);
            memory.reach(d);
            for (int k = 1; k <= lastConstant; k++) {
                memory.reach(constants[k]);
            }
            return memory.spreadReach();
        }

        private void execute(int word) {
            int top = memory.headOf(s);
            int under = memory.tailOf(s);
            int second = memory.headOf(under);
            int rest = memory.tailOf(under);
            int op = Op.opOf(word);
            switch (op) {
                case Op.LD:
                    load(Op.firstOf(word), Op.secondOf(word));
                    break;
                case Op.LDC:
                    s = memory.newPair(constants[Math.min(Op.firstOf(word), lastConstant)], s);
                    break;
                case Op.LDF:
                    s = memory.newPair(memory.newClosure(next, e), s);
                    next = Op.firstOf(word);
                    break;
                case Op.AP:
                    apply(top, second, rest);
                    break;
                case Op.RTN:
                    giveBack(top);
                    break;
                case Op.DUM:
                    e = memory.newPair(Memory.NIL, e);
                    break;
                case Op.RAP:
                    applyRecursively(top, second, rest);
                    break;
                case Op.SEL:
                    s = under;
                    d = memory.newMark(Op.secondOf(word), d);
                    next = top == Memory.T ? next : Op.firstOf(word);
                    break;
                case Op.JOIN:
                    next = memory.addressOf(d);
                    d = memory.cellOf(d);
                    break;
                case Op.CAR:
                case Op.CDR:
                    takeApart(op, top, under);
                    break;
                case Op.ATOM:
                    s = memory.newPair(truth(isAtom(top)), under);
                    break;
                case Op.CONS:
                    s = memory.newPair(memory.newPair(top, second), rest);
                    break;
                case Op.EQ:
                    s = memory.newPair(truth(isSameAtom(second, top)), rest);
                    break;
                case Op.STOP:
                    state = DONE;
                    break;
                default:
                    count(op, second, top, rest);
                    break;
            }
        }

        private void load(int i, int j) {
            int frame = memory.pairBehind(e, i);
            int place = frame == NONE ? NONE : memory.pairBehind(memory.headOf(frame), j);
            if (place == NONE) {
                state = SHORT;
            } else {
                s = memory.newPair(memory.headOf(place), s);
            }
        }

        private void takeApart(int op, int pair, int rest) {
            if (!memory.isPair(pair)) {
                state = UNPAIRED;
            } else {
                int part = op == Op.CAR ? memory.headOf(pair) : memory.tailOf(pair);
                s = memory.newPair(part, rest);
            }
        }

        private static int truth(boolean isTrue) {
            return isTrue ? Memory.T : Memory.F;
        }

        private boolean isAtom(int cell) {
            int kind = memory.kindOf(cell);
            return kind == Memory.NUMBER || kind == Memory.NAME;
        }

        private boolean isSameAtom(int a, int b) {
            return isAtom(a) && memory.kindOf(a) == memory.kindOf(b)
                    && memory.valueOf(a) == memory.valueOf(b);
        }

        private void count(int op, int left, int right, int rest) {
            if (memory.kindOf(left) != Memory.NUMBER || memory.kindOf(right) != Memory.NUMBER) {
                state = UNCOUNTED;
                return;
            }
            int a = memory.valueOf(left);
            int b = memory.valueOf(right);
            if (op == Op.LEQ) {
                s = memory.newPair(truth(a <= b), rest);
            } else if (b == 0 && (op == Op.DIV || op == Op.REM)) {
                state = ZERO;
            } else {
                s = memory.newPair(memory.newNumber(calculate(op, a, b)), rest);
            }
        }

        private static int calculate(int op, int a, int b) {
            switch (op) {
                case Op.ADD:
                    return a + b;
                case Op.SUB:
                    return a - b;
                case Op.MUL:
                    return a * b;
                case Op.DIV:
                    return b == 0 ? 0 : a / b;
                default:
                    return b == 0 ? 0 : a % b;
            }
        }

        private void apply(int closure, int values, int rest) {
            if (memory.kindOf(closure) != Memory.CLOSURE) {
                state = UNCALLABLE;
                return;
            }
            d = memory.newPair(rest, memory.newPair(e, memory.newMark(next, d)));
            e = memory.newPair(values, memory.cellOf(closure));
            enter(closure);
        }

        /** The closure was made over the frame of DUM, whose values are known only now. */
        private void applyRecursively(int closure, int values, int rest) {
            int outer = memory.tailOf(e);
            d = memory.newPair(rest, memory.newPair(outer, memory.newMark(next, d)));
            e = memory.cellOf(closure);
            memory.setHead(e, values);
            enter(closure);
        }

        private void enter(int closure) {
            s = Memory.NIL;
            next = memory.addressOf(closure);
        }

        private void giveBack(int value) {
            int saved = memory.tailOf(d);
            int mark = memory.tailOf(saved);
            s = memory.newPair(value, memory.headOf(d));
            e = memory.headOf(saved);
            next = memory.addressOf(mark);
            d = memory.cellOf(mark);
        }
    }
}
