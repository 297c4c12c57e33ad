import java.util.function.Supplier;

/** The two sides of a bound: what is still answered, and what is refused and leaves all as it was. */
final class Bounds {
    interface Call {
        long on(AfterOffice office);
    }

    interface CallWith {
        long on(AfterOffice office, int argument);
    }

    static final String USUAL_TEXT = "person a 40; person b 50; person c 60; clerk x; clerk y; barred y b;"
            + "letter l a b 3 999 99 if dead a; letter m b c 0 5 7 if read l;"
            + "proof 12; dies=age/10; fee=1+shelf; good=50-late;";
    static final String USUAL_TAPE = "person q 1;letter";

    private final Checks checks;
    private final Supplier<AfterOffice> making;

    Bounds(Checks checks, Supplier<AfterOffice> making) {
        this.checks = checks;
        this.making = making;
    }

    /**
     * Person a is dead from year 5 on, letter l is opened in year 6, letter m in year 7; five facts, the first three of
     * them in slot 1; the latest read had its fault at byte 9; seventeen bytes wait on the tape.
     */
    static AfterOffice usual() {
        AfterOffice office = new AfterOffice();
        Checks.read(office, USUAL_TEXT);
        Checks.read(office, "person z 100;");
        office.rumour(3, 0, 6);
        office.death(4, 0);
        office.rumour(5, 0, 6);
        office.hold(1);
        office.date(0, 1, 7);
        office.annul(1);
        Checks.lay(office, USUAL_TAPE);
        return office;
    }

    /** An office that has read a text. */
    static Supplier<AfterOffice> of(String text) {
        return () -> {
            AfterOffice office = new AfterOffice();
            Checks.read(office, text);
            return office;
        };
    }

    void answers(String call, long due, Call made) {
        checks.same(call, made.on(making.get()), due);
    }

    /** Refused with NONE: afterwards the office is in all as one that was never asked. */
    void refuses(String call, Call made) {
        refuses(call, AfterOffice.NONE, made);
    }

    void refuses(String call, long refusal, Call made) {
        AfterOffice office = making.get();
        checks.same(call, made.on(office), refusal);
        checks.same("all behind the refused " + call, State.of(office), State.of(making.get()));
    }

    /** An argument that lies from least to most: both are answered as due, what lies outside is refused with NONE. */
    void edges(String call, int least, long dueAtLeast, int most, long dueAtMost, CallWith made) {
        edges(call, AfterOffice.NONE, new int[] {least, most}, new long[] {dueAtLeast, dueAtMost}, made);
    }

    void edges(String call, long refusal, int[] last, long[] due, CallWith made) {
        for (int i = 0; i < 2; i++) {
            int argument = last[i];
            answers(call + " with " + argument, due[i], office -> made.on(office, argument));
        }
        for (int argument : new int[] {last[0] - 1, last[1] + 1, Integer.MIN_VALUE, Integer.MAX_VALUE}) {
            refuses(call + " with " + argument, refusal, office -> made.on(office, argument));
        }
    }
}
