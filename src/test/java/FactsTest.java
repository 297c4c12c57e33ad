/** Promises 11 to 19, 42 and 43: facts, what they weigh, and slots. */
public final class FactsTest {
    private static final Checks CHECKS = new Checks("FactsTest");
    private static final String TEXT = "person a 1; person b 2; letter l a b 0 9 9; letter m b a 3 9 9;";

    private static void fact(AfterOffice office, int number, int... due) {
        for (int what = 0; what < 4; what++) {
            CHECKS.same("fact(" + number + ", " + what + ")", office.fact(number, what), due[what]);
        }
        CHECKS.none("fact(" + number + ", 4)", office.fact(number, 4));
        CHECKS.none("fact(" + number + ", -1)", office.fact(number, -1));
    }

    private static void ofAllKinds() {
        AfterOffice office = CHECKS.office(TEXT);
        CHECKS.same("rumour", office.rumour(59, 1, 20), 0);
        CHECKS.same("death", office.death(0, 1), 1);
        CHECKS.same("takeBack", office.takeBack(1, 1), 2);
        CHECKS.same("early", office.early(2, 0), 3);
        CHECKS.same("date", office.date(3, 1, 59), 4);
        CHECKS.same("flood", office.flood(4, 3), 5);
        CHECKS.same("annul", office.annul(5), 6);
        fact(office, 0, 0, 59, 1, 20);
        fact(office, 1, 1, 0, 1, -1);
        fact(office, 2, 2, 1, 1, -1);
        fact(office, 3, 3, 2, 0, -1);
        fact(office, 4, 4, 3, 1, 59);
        fact(office, 5, 5, 4, 3, -1);
        fact(office, 6, 6, -1, 5, -1);
        fact(office, 7, -1, -1, -1, -1);
        fact(office, -1, -1, -1, -1, -1);
        CHECKS.same("facts", office.count(5), 7);
    }

    private static void noSuchOnes() {
        AfterOffice office = CHECKS.office(TEXT);
        int[] noYears = {-1, 60, Integer.MIN_VALUE, Integer.MAX_VALUE};
        for (int year : noYears) {
            CHECKS.none("rumour in " + year, office.rumour(year, 0, 1));
            CHECKS.none("death in " + year, office.death(year, 0));
            CHECKS.none("takeBack in " + year, office.takeBack(year, 0));
            CHECKS.none("early in " + year, office.early(year, 0));
            CHECKS.none("date in " + year, office.date(year, 0, 0));
            CHECKS.none("date of " + year, office.date(0, 0, year));
            CHECKS.none("flood in " + year, office.flood(year, 0));
        }
        int[] noOnes = {-1, 2, Integer.MIN_VALUE, Integer.MAX_VALUE};
        for (int one : noOnes) {
            CHECKS.none("rumour of " + one, office.rumour(0, one, 1));
            CHECKS.none("death of " + one, office.death(0, one));
            CHECKS.none("takeBack of " + one, office.takeBack(0, one));
            CHECKS.none("early of " + one, office.early(0, one));
            CHECKS.none("date of " + one, office.date(0, one, 0));
            CHECKS.none("weighs of " + one, office.weighs(one, 0, 0));
        }
        CHECKS.none("flood of shelf 4", office.flood(0, 4));
        CHECKS.none("flood of shelf -1", office.flood(0, -1));
        CHECKS.none("a weight of 0", office.rumour(0, 0, 0));
        CHECKS.none("a weight of 21", office.rumour(0, 0, 21));
        CHECKS.none("annul(0)", office.annul(0));
        CHECKS.none("annul(-1)", office.annul(-1));
        CHECKS.same("facts", office.count(5), 0);
    }

    private static void sixty() {
        AfterOffice office = CHECKS.office(TEXT);
        for (int i = 0; i < 60; i++) {
            int number = i % 3 == 2 ? office.annul(i - 1) : office.rumour(i, i % 2, 1 + i % 20);
            CHECKS.same("fact " + i, number, i);
        }
        CHECKS.none("a 61st rumour", office.rumour(0, 0, 1));
        CHECKS.none("a 61st death", office.death(0, 0));
        CHECKS.none("a 61st takeBack", office.takeBack(0, 0));
        CHECKS.none("a 61st early", office.early(0, 0));
        CHECKS.none("a 61st date", office.date(0, 0, 0));
        CHECKS.none("a 61st flood", office.flood(0, 0));
        CHECKS.none("a 61st void", office.annul(0));
        CHECKS.same("facts", office.count(5), 60);
        // Of facts 0, 3, 6 .. those of even numbers are of person 0, with weights 1 + i % 20; the others are void.
        int sum = 0;
        for (int i = 0; i < 60; i += 6) {
            sum += 1 + i % 20;
        }
        CHECKS.same("weighs of all", office.weighs(0, 59, 60), sum);
    }

    private static void weights() {
        AfterOffice office = CHECKS.office(TEXT);
        office.rumour(5, 0, 3);
        office.rumour(2, 0, 4);
        office.rumour(2, 1, 5);
        office.annul(1);
        office.rumour(5, 0, 6);
        office.annul(1);
        office.death(0, 0);
        CHECKS.none("annul of a void", office.annul(3));
        CHECKS.same("weighs(0, 1, 2)", office.weighs(0, 1, 2), 0);
        CHECKS.same("weighs(0, 2, 2)", office.weighs(0, 2, 2), 4);
        CHECKS.same("weighs(0, 4, 2)", office.weighs(0, 4, 2), 4);
        CHECKS.same("weighs(0, 5, 2)", office.weighs(0, 5, 2), 7);
        CHECKS.same("weighs(0, 5, 1)", office.weighs(0, 5, 1), 3);
        CHECKS.same("weighs(0, 5, 0)", office.weighs(0, 5, 0), 0);
        CHECKS.same("weighs(0, 5, 4)", office.weighs(0, 5, 4), 3);
        CHECKS.same("weighs(0, 59, 7)", office.weighs(0, 59, 7), 9);
        CHECKS.same("weighs(1, 59, 7)", office.weighs(1, 59, 7), 5);
        CHECKS.none("weighs(0, 60, 7)", office.weighs(0, 60, 7));
        CHECKS.none("weighs(0, -1, 7)", office.weighs(0, -1, 7));
        CHECKS.none("weighs(0, 0, 8)", office.weighs(0, 0, 8));
        CHECKS.none("weighs(0, 0, -1)", office.weighs(0, 0, -1));
    }

    private static void slots() {
        AfterOffice office = CHECKS.office(TEXT);
        CHECKS.same("restore of nothing", office.restore(0), false);
        CHECKS.same("hold(3)", office.hold(3), false);
        CHECKS.same("hold(-1)", office.hold(-1), false);
        CHECKS.same("restore(3)", office.restore(3), false);
        CHECKS.same("restore(-1)", office.restore(-1), false);
        CHECKS.same("slots", office.count(7), 0);
        CHECKS.same("hold(1) of no facts", office.hold(1), true);
        CHECKS.same("slots", office.count(7), 1);
        office.rumour(1, 0, 7);
        office.annul(0);
        CHECKS.same("hold(0)", office.hold(0), true);
        many();
        CHECKS.same("slots", office.count(7), 2);
        office.rumour(2, 0, 9);
        CHECKS.same("restore(2)", office.restore(2), false);
        CHECKS.same("facts", office.count(5), 3);
        CHECKS.same("restore(0)", office.restore(0), true);
        CHECKS.same("facts", office.count(5), 2);
        fact(office, 0, 0, 1, 0, 7);
        fact(office, 1, 6, -1, 0, -1);
        fact(office, 2, -1, -1, -1, -1);
        CHECKS.same("death behind", office.death(3, 1), 2);
        CHECKS.same("restore(0) again", office.restore(0), true);
        CHECKS.same("facts", office.count(5), 2);
        CHECKS.same("restore(1)", office.restore(1), true);
        CHECKS.same("facts", office.count(5), 0);
        office.flood(9, 2);
        CHECKS.same("restore(0) once more", office.restore(0), true);
        fact(office, 0, 0, 1, 0, 7);
        CHECKS.same("hold(0) over", office.hold(0), true);
        CHECKS.same("slots", office.count(7), 2);
        CHECKS.same("hold(2)", office.hold(2), true);
        CHECKS.same("slots", office.count(7), 3);
        office.flood(9, 2);
        CHECKS.same("restore(2)", office.restore(2), true);
        CHECKS.same("facts", office.count(5), 2);
    }

    private static void many() {
        AfterOffice office = CHECKS.office(TEXT);
        office.rumour(1, 1, 2);
        office.date(3, 0, 4);
        office.flood(5, 3);
        office.early(6, 1);
        office.hold(1);
        CHECKS.same("restore of nothing held", office.restore(0), false);
        CHECKS.same("hold(0) of four", office.hold(0), true);
        Checks.read(office, "fault");
        office.annul(0);
        CHECKS.same("restore(1) of four", office.restore(1), true);
        fact(office, 0, 0, 1, 1, 2);
        fact(office, 1, 4, 3, 0, 4);
        fact(office, 2, 5, 5, 3, -1);
        fact(office, 3, 3, 6, 1, -1);
        CHECKS.same("facts", office.count(5), 4);
    }

    public static void main(String[] args) {
        ofAllKinds();
        noSuchOnes();
        sixty();
        weights();
        slots();
        CHECKS.end();
    }
}
