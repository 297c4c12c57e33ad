/**
 * All that an office tells of itself, in under 400 calls. The asking takes up what the slots hold and reads the tape, so
 * an office is asked once, at its end.
 */
final class State {
    private final AfterOffice office;
    private final StringBuilder told = new StringBuilder();

    private State(AfterOffice office) {
        this.office = office;
    }

    /** With the place of the latest fault, and with what waits on the tape. */
    static String of(AfterOffice office) {
        State state = new State(office);
        state.add("place", office.place());
        state.add("bytes", office.count(6));
        state.tellBook();
        state.tellFacts();
        state.tellSlots();
        state.add("read", office.read());
        state.add("place", office.place());
        state.tellBook();
        return state.told.toString();
    }

    /** What a text with a fault leaves: all but the tape and the fault's place. */
    static String withoutTape(AfterOffice office) {
        State state = new State(office);
        state.tellBook();
        state.tellFacts();
        state.tellSlots();
        return state.told.toString();
    }

    private void add(String name, long... values) {
        told.append(name);
        for (long value : values) {
            told.append(' ').append(value);
        }
        told.append("; ");
    }

    private void tellBook() {
        for (int what = 0; what < 8; what++) {
            if (what != 6) {
                add("count", office.count(what));
            }
        }
        int people = Math.min(3, office.count(0));
        int letters = Math.min(3, office.count(2));
        for (int i = 0; i < people; i++) {
            add("dies", office.dies(i, 0), office.dies(i, 59));
            for (int j = 0; j < Math.min(2, office.count(1)); j++) {
                add("barred", office.barred(j, i));
            }
        }
        for (int i = 0; i < letters; i++) {
            for (int what = 0; what < 5; what++) {
                add("letter", office.letter(i, what));
            }
            add("fee", office.fee(i, 0), office.fee(i, 59));
            add("asks", office.asks(i));
        }
        add("clerk", office.clerk(1));
    }

    /* Of many facts the first and the last are asked for one by one. */
    private void tellFacts() {
        int n = office.count(5);
        add("facts", n);
        for (int i = 0; i < n; i++) {
            if (i < 6 || i >= n - 6) {
                add("fact", office.fact(i, 0), office.fact(i, 1), office.fact(i, 2), office.fact(i, 3));
            }
        }
        for (int i = 0; i < Math.min(3, office.count(0)); i++) {
            add("weighs", office.weighs(i, 59, n));
        }
        for (int i = 0; i < Math.min(3, office.count(2)); i++) {
            add("run", office.run(i, n, 1, 0), office.run(i, n, 1, 1), office.run(i, n, 1, 2));
        }
        add("income", office.income(n, 0, 59));
    }

    private void tellSlots() {
        for (int slot = 0; slot < 3; slot++) {
            boolean held = office.restore(slot);
            add("slot", slot, held ? 1 : 0);
            if (held) {
                tellFacts();
            }
        }
    }
}
