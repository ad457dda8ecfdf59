/**
 * A processor that counts its calls: the document promises nothing of an object beyond its 512th
 * call, so a test that goes further is itself wrong.
 */
final class CountedProcessor {
    static final int MOST_CALLS = 512;

    private final SecdProcessor processor;
    private int calls = 0;

    CountedProcessor(int cells) {
        processor = new SecdProcessor(cells);
    }

    int calls() {
        return calls;
    }

    private SecdProcessor called() {
        calls++;
        if (calls > MOST_CALLS) {
            throw new IllegalStateException("a test makes more than " + MOST_CALLS + " calls on one object");
        }
        return processor;
    }

    boolean put(int c) {
        return called().put(c);
    }

    void erase() {
        called().erase();
    }

    int compile() {
        return called().compile();
    }

    int code(int address) {
        return called().code(address);
    }

    int begin(int fuel) {
        return called().begin(fuel);
    }

    int run(int n) {
        return called().run(n);
    }

    int status() {
        return called().status();
    }

    int cycles() {
        return called().cycles();
    }

    int address() {
        return called().address();
    }

    int depth(int register) {
        return called().depth(register);
    }

    int live() {
        return called().live();
    }

    int used() {
        return called().used();
    }

    int collections() {
        return called().collections();
    }

    int printed() {
        return called().printed();
    }

    int character(int k) {
        return called().character(k);
    }
}
