/** Part II of the terms on facts, promises 11 to 19, 42 and 43: each bound on both its sides. */
public final class FactBoundsTest {
    private static final Checks CHECKS = new Checks("FactBoundsTest");
    private static final Bounds USUAL = new Bounds(CHECKS, Bounds::usual);
    private static final Bounds FULL = new Bounds(CHECKS, () -> withFacts(60));
    private static final Bounds ROOM_FOR_ONE = new Bounds(CHECKS, () -> withFacts(59));
    private static final Bounds TEN = new Bounds(CHECKS, Bounds.of(ten()));

    /* The usual office with so many facts, held in slot 2; the first five are the usual ones. */
    private static AfterOffice withFacts(int many) {
        AfterOffice office = Bounds.usual();
        for (int i = 5; i < many; i++) {
            office.rumour(i % 60, 2, 1);
        }
        office.hold(2);
        return office;
    }

    private static String ten() {
        StringBuilder text = new StringBuilder();
        for (int i = 0; i < 10; i++) {
            text.append("person ").append((char) ('b' + i)).append(" 1;");
        }
        for (int i = 0; i < 10; i++) {
            text.append("letter l").append((char) ('b' + i)).append(" b k 3 9 9;");
        }
        return text.toString();
    }

    /* What a fact tells of itself as soon as it is told. */
    private static void told(String name, Bounds.Call call, int... due) {
        AfterOffice office = CHECKS.office(ten());
        CHECKS.same(name, call.on(office), 0);
        for (int what = 0; what < 4; what++) {
            CHECKS.same(name + ": fact(0, " + what + ")", office.fact(0, what), due[what]);
        }
        CHECKS.same(name + ": facts", office.count(5), 1);
    }

    private static void rumours() {
        CHECKS.sentence("A RUMOUR: the FACT's number. NONE, and nothing happens: 60 are there, no such ones.");
        USUAL.edges("rumour(x, 2, 20)", 0, 5, 59, 5, (office, x) -> office.rumour(x, 2, 20));
        USUAL.edges("rumour(0, x, 20)", 0, 5, 2, 5, (office, x) -> office.rumour(0, x, 20));
        USUAL.edges("rumour(0, 0, x)", 1, 5, 20, 5, (office, x) -> office.rumour(0, 0, x));
        TEN.edges("rumour(0, x, 1) of ten", 0, 0, 9, 0, (office, x) -> office.rumour(0, x, 1));
        ROOM_FOR_ONE.answers("a 60th rumour", 59, office -> office.rumour(0, 0, 1));
        FULL.refuses("a 61st rumour", office -> office.rumour(0, 0, 1));
        told("the least rumour", office -> office.rumour(0, 0, 1), 0, 0, 0, 1);
        told("the greatest rumour", office -> office.rumour(59, 9, 20), 0, 59, 9, 20);
    }

    private static void deaths() {
        CHECKS.sentence("A DEATH; likewise.");
        USUAL.edges("death(x, 2)", 0, 5, 59, 5, (office, x) -> office.death(x, 2));
        USUAL.edges("death(0, x)", 0, 5, 2, 5, (office, x) -> office.death(0, x));
        TEN.edges("death(0, x) of ten", 0, 0, 9, 0, (office, x) -> office.death(0, x));
        ROOM_FOR_ONE.answers("a 60th death", 59, office -> office.death(0, 0));
        FULL.refuses("a 61st death", office -> office.death(0, 0));
        told("the least death", office -> office.death(0, 0), 1, 0, 0, -1);
        told("the greatest death", office -> office.death(59, 9), 1, 59, 9, -1);
    }

    private static void backs() {
        CHECKS.sentence("BACK; likewise.");
        USUAL.edges("takeBack(x, 1)", 0, 5, 59, 5, (office, x) -> office.takeBack(x, 1));
        USUAL.edges("takeBack(0, x)", 0, 5, 1, 5, (office, x) -> office.takeBack(0, x));
        TEN.edges("takeBack(0, x) of ten", 0, 0, 9, 0, (office, x) -> office.takeBack(0, x));
        ROOM_FOR_ONE.answers("a 60th back", 59, office -> office.takeBack(0, 0));
        FULL.refuses("a 61st back", office -> office.takeBack(0, 0));
        told("the least back", office -> office.takeBack(0, 0), 2, 0, 0, -1);
        told("the greatest back", office -> office.takeBack(59, 9), 2, 59, 9, -1);
    }

    private static void earlies() {
        CHECKS.sentence("EARLY; likewise.");
        USUAL.edges("early(x, 1)", 0, 5, 59, 5, (office, x) -> office.early(x, 1));
        USUAL.edges("early(0, x)", 0, 5, 1, 5, (office, x) -> office.early(0, x));
        TEN.edges("early(0, x) of ten", 0, 0, 9, 0, (office, x) -> office.early(0, x));
        ROOM_FOR_ONE.answers("a 60th early", 59, office -> office.early(0, 0));
        FULL.refuses("a 61st early", office -> office.early(0, 0));
        told("the least early", office -> office.early(0, 0), 3, 0, 0, -1);
        told("the greatest early", office -> office.early(59, 9), 3, 59, 9, -1);
    }

    private static void dates() {
        CHECKS.sentence("DATE; likewise.");
        USUAL.edges("date(x, 1, 59)", 0, 5, 59, 5, (office, x) -> office.date(x, 1, 59));
        USUAL.edges("date(0, x, 59)", 0, 5, 1, 5, (office, x) -> office.date(0, x, 59));
        USUAL.edges("date(0, 0, x)", 0, 5, 59, 5, (office, x) -> office.date(0, 0, x));
        TEN.edges("date(0, x, 0) of ten", 0, 0, 9, 0, (office, x) -> office.date(0, x, 0));
        ROOM_FOR_ONE.answers("a 60th date", 59, office -> office.date(0, 0, 0));
        FULL.refuses("a 61st date", office -> office.date(0, 0, 0));
        told("the least date", office -> office.date(0, 0, 0), 4, 0, 0, 0);
        told("the greatest date", office -> office.date(59, 9, 59), 4, 59, 9, 59);
    }

    private static void floods() {
        CHECKS.sentence("A FLOOD; likewise.");
        USUAL.edges("flood(x, 3)", 0, 5, 59, 5, (office, x) -> office.flood(x, 3));
        USUAL.edges("flood(0, x)", 0, 5, 3, 5, (office, x) -> office.flood(0, x));
        ROOM_FOR_ONE.answers("a 60th flood", 59, office -> office.flood(0, 0));
        FULL.refuses("a 61st flood", office -> office.flood(0, 0));
        told("the least flood", office -> office.flood(0, 0), 5, 0, 0, -1);
        told("the greatest flood", office -> office.flood(59, 3), 5, 59, 3, -1);
        Bounds empty = new Bounds(CHECKS, AfterOffice::new);
        empty.edges("flood(0, x) of a new one", 0, 0, 3, 0, (office, x) -> office.flood(0, x));
    }

    private static void voids() {
        CHECKS.sentence("A VOID; likewise; no such FACT, a VOID.");
        Bounds threeFacts = new Bounds(CHECKS, () -> {
            AfterOffice office = Bounds.usual();
            office.restore(1);
            return office;
        });
        threeFacts.edges("annul(x) of three", 0, 3, 2, 3, AfterOffice::annul);
        USUAL.answers("annul(3)", 5, office -> office.annul(3));
        USUAL.refuses("annul(4), a VOID", office -> office.annul(4));
        USUAL.refuses("annul(5), no FACT", office -> office.annul(5));
        USUAL.refuses("annul(-1)", office -> office.annul(-1));
        USUAL.answers("annul(1), annulled already", 5, office -> office.annul(1));
        ROOM_FOR_ONE.answers("a 60th void", 59, office -> office.annul(58));
        ROOM_FOR_ONE.refuses("a void of the 60th", office -> office.annul(59));
        FULL.refuses("a 61st void", office -> office.annul(59));
        AfterOffice office = Bounds.usual();
        office.annul(3);
        int[] due = {6, -1, 3, -1};
        for (int what = 0; what < 4; what++) {
            CHECKS.same("fact(5, " + what + ") of a VOID", office.fact(5, what), due[what]);
        }
    }

    private static void factsTell() {
        CHECKS.sentence("NONE for others, for what it has not.");
        USUAL.edges("fact(x, 0)", 0, 0, 4, 6, (office, x) -> office.fact(x, 0));
        USUAL.edges("fact(0, x)", 0, 0, 3, 6, (office, x) -> office.fact(0, x));
        USUAL.edges("fact(3, x)", 0, 4, 3, 7, (office, x) -> office.fact(3, x));
        FULL.edges("fact(x, 2) of sixty", 0, 0, 59, 2, (office, x) -> office.fact(x, 2));
        USUAL.refuses("fact(1, 3) of a DEATH", office -> office.fact(1, 3));
        USUAL.refuses("fact(4, 1) of a VOID", office -> office.fact(4, 1));
        USUAL.refuses("fact(4, 3) of a VOID", office -> office.fact(4, 3));
        USUAL.answers("fact(4, 2) of a VOID", 1, office -> office.fact(4, 2));
        USUAL.answers("fact(1, 1) of a DEATH", 4, office -> office.fact(1, 1));
    }

    private static void weights() {
        CHECKS.sentence("How much the RUMOURS of a PERSON weigh at the end of a YEAR, as KNOWN by n; NONE: no such ones.");
        USUAL.edges("weighs(x, 59, 5)", 0, 12, 2, 0, (office, x) -> office.weighs(x, 59, 5));
        USUAL.edges("weighs(0, x, 5)", 0, 0, 59, 12, (office, x) -> office.weighs(0, x, 5));
        USUAL.edges("weighs(0, 59, x)", 0, 0, 5, 12, (office, x) -> office.weighs(0, 59, x));
        int[][] byYear = {{2, 0}, {3, 6}, {4, 6}, {5, 12}};
        for (int[] row : byYear) {
            USUAL.answers("weighs(0, " + row[0] + ", 5)", row[1], office -> office.weighs(0, row[0], 5));
        }
        FULL.edges("weighs(2, 59, x) of sixty", 0, 0, 60, 55, (office, x) -> office.weighs(2, 59, x));
        Bounds heavy = new Bounds(CHECKS, () -> {
            AfterOffice office = Bounds.of(ten()).get();
            for (int i = 0; i < 60; i++) {
                office.rumour(59, 9, 20);
            }
            return office;
        });
        heavy.edges("weighs(9, 59, x) of the heaviest", 0, 0, 60, 1200, (office, x) -> office.weighs(9, 59, x));
        heavy.answers("weighs(9, 58, 60) of the heaviest", 0, office -> office.weighs(9, 58, 60));
    }

    private static void knownByN() {
        CHECKS.sentence("KNOWN by n: the first n of them, without those that a VOID among them names (no VOID).");
        AfterOffice office = CHECKS.office("person a 1;letter l a a 0 9 9 if dead a;");
        office.rumour(0, 0, 1);
        office.rumour(0, 0, 2);
        office.annul(0);
        office.rumour(0, 0, 4);
        office.annul(1);
        office.annul(0);
        int[] due = {0, 1, 3, 2, 6, 4, 4};
        for (int n = 0; n < due.length; n++) {
            CHECKS.same("weighs by " + n, office.weighs(0, 59, n), due[n]);
        }
        CHECKS.none("weighs by 7", office.weighs(0, 59, 7));
        AfterOffice flooded = CHECKS.office("person a 1;letter l a a 0 9 9 if dead a;");
        flooded.flood(0, 0);
        flooded.annul(0);
        CHECKS.same("a flood by 0", flooded.run(0, 0, 1, 0), 0);
        CHECKS.same("a flood by 1", flooded.run(0, 1, 1, 0), 4);
        CHECKS.same("a flood by 2, with its VOID", flooded.run(0, 2, 1, 0), 0);
    }

    private static void sixtyVoids() {
        CHECKS.sentence("FACTS, 60 at most, numbered from 0 on");
        AfterOffice office = CHECKS.office("person a 1;");
        for (int i = 0; i < 60; i++) {
            CHECKS.same("fact " + i, i == 0 ? office.rumour(0, 0, 20) : office.annul(0), i);
        }
        CHECKS.none("a 61st void", office.annul(0));
        CHECKS.same("facts", office.count(5), 60);
        CHECKS.same("weighs by 1", office.weighs(0, 59, 1), 20);
        CHECKS.same("weighs by 60", office.weighs(0, 59, 60), 0);
        AfterOffice last = withFacts(59);
        CHECKS.same("the last fact's void", last.annul(58), 59);
        CHECKS.same("weighs of the others", last.weighs(2, 59, 60), 53);
    }

    private static void holding() {
        CHECKS.sentence("FACTS are held in a SLOT (0 .. 2): true; false: no such one.");
        USUAL.edges("hold(x)", 0, new int[] {0, 2}, new long[] {1, 1}, (office, x) -> office.hold(x) ? 1 : 0);
        USUAL.answers("hold(1) once more", 1, office -> office.hold(1) ? 1 : 0);
        for (int slot = 0; slot < 3; slot++) {
            AfterOffice office = Bounds.usual();
            office.hold((slot + 1) % 3);
            for (int i = 5; i < 60; i++) {
                office.rumour(i, 2, 1);
            }
            office.hold(slot);
            office.restore((slot + 1) % 3);
            CHECKS.same("facts of the other slot", office.count(5), 5);
            CHECKS.same("restore(" + slot + ")", office.restore(slot), true);
            CHECKS.same("facts of " + slot, office.count(5), 60);
            CHECKS.same("the last one's year", office.fact(59, 1), 59);
            CHECKS.same("all weights", office.weighs(2, 59, 60), 55);
            CHECKS.none("a 61st behind it", office.flood(0, 0));
        }
        AfterOffice over = CHECKS.office(ten());
        over.hold(1);
        over.date(7, 9, 58);
        over.hold(0);
        over.restore(1);
        over.rumour(59, 8, 17);
        over.hold(0);
        over.restore(1);
        over.flood(1, 2);
        CHECKS.same("restore(0)", over.restore(0), true);
        int[] due = {0, 59, 8, 17};
        for (int what = 0; what < 4; what++) {
            CHECKS.same("fact(0, " + what + ") of what was held over another one", over.fact(0, what), due[what]);
        }
        AfterOffice none = CHECKS.office("person a 1;");
        CHECKS.same("hold(2) of no facts", none.hold(2), true);
        CHECKS.same("slots", none.count(7), 1);
        none.rumour(0, 0, 1);
        CHECKS.same("restore(2) of no facts", none.restore(2), true);
        CHECKS.same("facts", none.count(5), 0);
        CHECKS.same("hold(0)", none.hold(0), true);
        CHECKS.same("hold(1)", none.hold(1), true);
        CHECKS.same("all slots", none.count(7), 3);
    }

    private static void restoring() {
        CHECKS.sentence("They go on from what a SLOT holds (that stays there): true; false, and nothing happens: no such one, nothing is held.");
        USUAL.answers("restore(1)", 1, office -> office.restore(1) ? 1 : 0);
        for (int slot : new int[] {0, 2, -1, 3, Integer.MIN_VALUE, Integer.MAX_VALUE}) {
            USUAL.refuses("restore(" + slot + ")", 0, office -> office.restore(slot) ? 1 : 0);
        }
        Bounds allHeld = new Bounds(CHECKS, () -> {
            AfterOffice office = withFacts(60);
            office.hold(0);
            return office;
        });
        allHeld.edges("restore(x) of three", 0, new int[] {0, 2}, new long[] {1, 1},
                (office, x) -> office.restore(x) ? 1 : 0);
        AfterOffice changed = Bounds.usual();
        changed.hold(0);
        changed.restore(1);
        changed.takeBack(9, 1);
        changed.annul(3);
        changed.hold(2);
        CHECKS.same("restore(0) over others", changed.restore(0), true);
        int[][] due = {{4, 0, 1, 7}, {6, -1, 1, -1}};
        for (int what = 0; what < 4; what++) {
            CHECKS.same("fact(3, " + what + ") of slot 0", changed.fact(3, what), due[0][what]);
            CHECKS.same("fact(4, " + what + ") of slot 0", changed.fact(4, what), due[1][what]);
        }
        CHECKS.same("restore(2) over others", changed.restore(2), true);
        int[][] second = {{2, 9, 1, -1}, {6, -1, 3, -1}};
        for (int what = 0; what < 4; what++) {
            CHECKS.same("fact(3, " + what + ") of slot 2", changed.fact(3, what), second[0][what]);
            CHECKS.same("fact(4, " + what + ") of slot 2", changed.fact(4, what), second[1][what]);
        }
        AfterOffice office = Bounds.usual();
        CHECKS.same("restore(1)", office.restore(1), true);
        CHECKS.same("facts", office.count(5), 3);
        CHECKS.same("it goes on", office.flood(0, 3), 3);
        CHECKS.same("the flood", office.run(0, 4, 1, 0), 4);
        CHECKS.same("restore(1) once more", office.restore(1), true);
        CHECKS.same("facts", office.count(5), 3);
        CHECKS.none("the flood is gone", office.fact(3, 0));
        CHECKS.none("known by 4", office.harm(4));
        CHECKS.same("another fact in its place", office.death(9, 1), 3);
        CHECKS.same("slots", office.count(7), 1);
    }

    public static void main(String[] args) {
        rumours();
        deaths();
        backs();
        earlies();
        dates();
        floods();
        voids();
        factsTell();
        weights();
        knownByN();
        sixtyVoids();
        holding();
        restoring();
        CHECKS.end();
    }
}
