/** Promises 20 to 31: the run, what it is set beside, and what it was good for. */
public final class RunTest {
    private static final Checks CHECKS = new Checks("RunTest");

    private static void run(AfterOffice office, int letter, int n, int k, int... due) {
        for (int what = 0; what < 3; what++) {
            String call = "run(" + letter + ", " + n + ", " + k + ", " + what + ")";
            CHECKS.same(call, office.run(letter, n, k, what), due[what]);
        }
    }

    private static void rumoursMakeDead() {
        AfterOffice office = CHECKS.office("person w 1; person r 1; letter a w r 0 10 7 if dead w;");
        office.rumour(5, 0, 4);
        office.rumour(3, 0, 6);
        run(office, 0, 0, 1, 0, -2, 10);
        run(office, 0, 1, 1, 0, -2, 10);
        run(office, 0, 2, 1, 1, 5, 9);
        run(office, 0, 2, 3, 1, 6, 8);
        run(office, 0, 2, 20, 5, 15, 0);
        office.annul(1);
        run(office, 0, 3, 1, 0, -2, 10);
        run(office, 0, 2, 1, 1, 5, 9);
        office.rumour(59, 0, 6);
        run(office, 0, 4, 1, 1, 59, 9);
        CHECKS.none("run of no letter", office.run(1, 0, 1, 0));
        CHECKS.none("run of letter -1", office.run(-1, 0, 1, 0));
        CHECKS.none("run by 5", office.run(0, 5, 1, 0));
        CHECKS.none("run by -1", office.run(0, -1, 1, 0));
        CHECKS.none("run each 0", office.run(0, 0, 0, 0));
        CHECKS.none("run each 21", office.run(0, 0, 21, 0));
        CHECKS.none("run what 3", office.run(0, 0, 1, 3));
        CHECKS.none("run what -1", office.run(0, 0, 1, -1));
    }

    private static void takenBackByNumbers() {
        String text = "person w 1; person r 1; letter a w r 0 10 7 if dead w;";
        AfterOffice office = CHECKS.office(text);
        office.rumour(5, 0, 10);
        office.takeBack(5, 0);
        run(office, 0, 2, 1, 1, 5, 9);
        AfterOffice other = CHECKS.office(text);
        other.takeBack(5, 0);
        other.rumour(5, 0, 10);
        run(other, 0, 2, 1, 3, 5, 10);
        AfterOffice later = CHECKS.office(text);
        later.rumour(5, 0, 9);
        later.takeBack(7, 0);
        later.early(7, 0);
        later.flood(7, 0);
        run(later, 0, 4, 1, 3, 7, 10);
    }

    private static void openedByHand() {
        AfterOffice office = CHECKS.office("person w 1; person r 1; letter a w r 0 10 7 if read a;"
                + "letter b w r 0 10 20 if 5<=year; letter c w r 0 10 30 if read a and 7<=year;");
        office.early(3, 0);
        office.early(6, 1);
        office.early(4, 1);
        run(office, 0, 1, 1, 2, 3, 10);
        run(office, 1, 1, 1, 1, 5, 10);
        run(office, 2, 1, 1, 1, 7, 10);
        run(office, 1, 2, 1, 1, 5, 10);
        run(office, 1, 2, 20, 2, 6, 10);
        run(office, 1, 3, 1, 2, 4, 10);
        CHECKS.same("harm(0)", office.harm(0), 0);
        CHECKS.same("harm(1)", office.harm(1), 7);
        CHECKS.same("harm(2)", office.harm(2), 7);
        CHECKS.same("harm(3)", office.harm(3), 27);
        CHECKS.none("harm(4)", office.harm(4));
        CHECKS.none("harm(-1)", office.harm(-1));
        AfterOffice fit = CHECKS.office("person w 1; clerk c; barred c w; letter a w w 0 0 9 if 5<=year;");
        fit.early(5, 0);
        CHECKS.same("harm of what could be opened", fit.harm(1), 0);
        run(fit, 0, 1, 1, 2, 5, 0);
        AfterOffice odd = CHECKS.office("person w 1; letter a w w 0 0 9 if year==5; letter b w w 0 0 20 if dead w;");
        odd.early(6, 0);
        CHECKS.same("harm of what a yearly look opened ahead", odd.harm(1), 0);
        odd.early(59, 1);
        CHECKS.same("harm in the last year", odd.harm(2), 20);
    }

    private static void theLastYear() {
        AfterOffice office = CHECKS.office("person w 1; letter a w w 0 0 0 if year==59; good=year;");
        run(office, 0, 0, 1, 1, 59, 0);
        run(office, 0, 0, 2, 0, -2, 0);
        CHECKS.same("late in the last year", office.late(0, 0, 1), 0);
        CHECKS.same("gain in the last year", office.gain(0, 1), 59);
        CHECKS.same("watch of the last year", office.watch(0, 59), 1);
        CHECKS.same("next of the last year", office.next(58, 0), 59);
        CHECKS.same("opened in the last year", office.opened(59, 0, 0), 0);
        CHECKS.same("income of the last year", office.income(0, 59, 59), 1);
        CHECKS.same("looks with the last year", office.looks(0, 1), 59);
        AfterOffice late = CHECKS.office("person w 1; letter a w w 0 0 0 if year==59; good=10+late;");
        CHECKS.same("gain by looks with the last year", late.looks(0, 2), 10);
    }

    private static void tenAtOnce() {
        StringBuilder text = new StringBuilder("person w 1;");
        for (char name = 'a'; name < 'k'; name++) {
            text.append("letter ").append(name).append(" w w 0 0 0");
            text.append(name < 'j' ? " if read " + (char) (name + 1) : "").append(';');
        }
        AfterOffice office = CHECKS.office(text.toString());
        for (int i = 0; i < 10; i++) {
            CHECKS.same("opened(0, 0, " + i + ") of ten", office.opened(0, 0, i), 9 - i);
        }
        CHECKS.none("opened(0, 0, 10) of ten", office.opened(0, 0, 10));
        CHECKS.same("rings() of a chain of ten", office.rings(), 0);
        CHECKS.same("burn() of a chain of ten", office.burn(), 0);
    }

    private static void datesAndFloods() {
        AfterOffice office = CHECKS.office("person w 1; letter a w w 0 10 7; letter b w w 0 10 7 if 9<=year;"
                + "letter c w w 1 10 7 if 9<=year;");
        office.date(0, 0, 9);
        office.date(3, 0, 20);
        office.date(3, 0, 4);
        office.flood(8, 0);
        run(office, 0, 1, 1, 4 - 3, 9, 10);
        run(office, 0, 2, 1, 1, 20, 10);
        run(office, 0, 3, 1, 1, 4, 10);
        run(office, 0, 4, 1, 1, 4, 10);
        run(office, 1, 4, 1, 4, 8, 10);
        run(office, 2, 4, 1, 1, 9, 10);
        office.annul(2);
        run(office, 0, 5, 1, 4, 8, 10);
        office.date(9, 2, 9);
        run(office, 2, 6, 1, 1, 9, 10);
        office.date(9, 2, 10);
        run(office, 2, 7, 1, 1, 10, 10);
    }

    private static void feesAndLapses() {
        AfterOffice office = CHECKS.office("person w 1; person r 1; letter a w r 0 3 7 if dead r;"
                + "letter b w r 1 4 7 if dead r; letter c r w 2 0 0 if dead r and read c; fee=2-shelf/2*2;");
        office.rumour(1, 0, 10);
        run(office, 0, 0, 1, 0, -2, 3);
        run(office, 0, 1, 1, 5, 2, 0);
        run(office, 1, 1, 1, 5, 3, 0);
        run(office, 2, 1, 1, 0, -2, 0);
        CHECKS.same("income of year 0", office.income(1, 0, 0), 4);
        CHECKS.same("income of year 1", office.income(1, 1, 1), 4);
        CHECKS.same("income of year 2", office.income(1, 2, 2), 3);
        CHECKS.same("income of year 3", office.income(1, 3, 3), 0);
        CHECKS.same("income of all", office.income(1, 0, 59), 11);
        CHECKS.same("income without deaths", office.income(0, 10, 19), 40);
        CHECKS.none("income(1, 3, 2)", office.income(1, 3, 2));
        CHECKS.none("income(1, -1, 2)", office.income(1, -1, 2));
        CHECKS.none("income(1, 0, 60)", office.income(1, 0, 60));
        CHECKS.none("income(2, 0, 1)", office.income(2, 0, 1));
        CHECKS.none("income(-1, 0, 1)", office.income(-1, 0, 1));
    }

    private static void orderOfOpening() {
        AfterOffice office = CHECKS.office("person w 1; letter a w w 0 9 7 if read c; letter b w w 0 9 7 if read a;"
                + "letter c w w 0 9 7 if 4<=year; letter d w w 0 9 7 if not read b and 4<=year; letter e w w 0 9 7;");
        int[] due = {2, 0, 1, -1};
        for (int i = 0; i < due.length; i++) {
            CHECKS.same("opened(4, 0, " + i + ")", office.opened(4, 0, i), due[i]);
        }
        CHECKS.same("opened(0, 0, 0)", office.opened(0, 0, 0), 4);
        CHECKS.none("opened(0, 0, 1)", office.opened(0, 0, 1));
        CHECKS.none("opened(5, 0, 0)", office.opened(5, 0, 0));
        CHECKS.none("opened(-1, 0, 0)", office.opened(-1, 0, 0));
        CHECKS.none("opened(60, 0, 0)", office.opened(60, 0, 0));
        CHECKS.none("opened(0, 1, 0)", office.opened(0, 1, 0));
        CHECKS.none("opened(0, -1, 0)", office.opened(0, -1, 0));
        CHECKS.none("opened(0, 0, -1)", office.opened(0, 0, -1));
        CHECKS.none("opened(0, 0, most)", office.opened(0, 0, Integer.MAX_VALUE));
        office.early(4, 4);
        office.early(0, 3);
        CHECKS.same("opened(0, 2, 0)", office.opened(0, 2, 0), 4);
        office.annul(1);
        office.early(0, 4);
        CHECKS.none("by hand is no look", office.opened(0, 4, 0));
    }

    private static void reasons() {
        AfterOffice office = CHECKS.office("person w 1; person r 1; clerk x; clerk y; barred y r;"
                + "letter a w r 0 99 7 if dead w; letter b w w 1 99 7; letter c r r 2 99 9 if 3<=year;");
        CHECKS.same("opened at once", office.why(1, 0, 0), 0);
        CHECKS.same("opened ahead", office.why(1, 9, 0), 0);
        CHECKS.same("condition", office.why(0, 0, 0), 2);
        CHECKS.same("clerk", office.why(2, 3, 0), 5);
        CHECKS.same("clerk of another year", office.why(2, 4, 0), 0);
        office.date(0, 2, 6);
        office.rumour(3, 1, 10);
        office.rumour(4, 0, 10);
        CHECKS.same("date before reader and clerk", office.why(2, 3, 3), 3);
        CHECKS.same("condition before date", office.why(2, 2, 3), 2);
        CHECKS.same("reader", office.why(2, 6, 3), 4);
        CHECKS.same("reader before clerk", office.why(2, 7, 3), 4);
        CHECKS.same("reader of what could be", office.why(0, 4, 3), 4);
        office.flood(5, 2);
        CHECKS.same("lost", office.why(2, 5, 4), 1);
        CHECKS.same("not yet lost", office.why(2, 4, 4), 3);
        office.early(6, 0);
        CHECKS.same("by hand", office.why(0, 6, 5), 0);
        CHECKS.same("by hand later", office.why(0, 5, 5), 4);
        CHECKS.none("why(3, 0, 0)", office.why(3, 0, 0));
        CHECKS.none("why(-1, 0, 0)", office.why(-1, 0, 0));
        CHECKS.none("why(0, 60, 0)", office.why(0, 60, 0));
        CHECKS.none("why(0, -1, 0)", office.why(0, -1, 0));
        CHECKS.none("why(0, 0, 6)", office.why(0, 0, 6));
        CHECKS.none("why(0, 0, -1)", office.why(0, 0, -1));
        // At the look's end: what another letter's opening ended counts.
        AfterOffice late = CHECKS.office("person w 1; letter a w w 0 9 9; letter b w w 0 9 9 if not read a;");
        CHECKS.same("a condition that ended in the look", late.why(1, 0, 0), 2);
    }

    private static void truth() {
        AfterOffice office = CHECKS.office("person w 1; person r 1; letter a w r 0 99 7 if dead w; letter b w r 0 99 7;");
        office.rumour(5, 0, 10);
        CHECKS.same("never by truth", office.tooSoon(1), 1);
        office.death(8, 0);
        CHECKS.same("later by truth", office.tooSoon(2), 1);
        office.death(5, 0);
        CHECKS.same("likewise by truth", office.tooSoon(3), 0);
        office.annul(2);
        office.death(2, 0);
        CHECKS.same("sooner by truth", office.tooSoon(5), 0);
        office.annul(4);
        office.early(3, 0);
        CHECKS.same("by hand", office.tooSoon(7), 0);
        CHECKS.same("tooSoon(0)", office.tooSoon(0), 0);
        CHECKS.none("tooSoon(8)", office.tooSoon(8));
        CHECKS.none("tooSoon(-1)", office.tooSoon(-1));
        AfterOffice back = CHECKS.office("person w 1; person r 1; letter a w r 0 99 7 if 9<=year;");
        back.rumour(5, 0, 10);
        back.takeBack(6, 0);
        CHECKS.same("by truth it was taken back", back.tooSoon(2), 1);
        back.death(6, 0);
        CHECKS.same("the death came behind in its year", back.tooSoon(3), 1);
        back.death(5, 0);
        CHECKS.same("the death came ahead", back.tooSoon(4), 0);
        AfterOffice last = CHECKS.office("person w 1; person r 1; letter a w r 0 99 7 if dead w and year==59;");
        last.rumour(5, 0, 10);
        last.death(59, 0);
        CHECKS.same("by truth in the last year", last.tooSoon(2), 0);
    }

    private static void wrongs() {
        AfterOffice office = CHECKS.office("person a 1; person b 1; person c 1; proof 5;");
        office.rumour(3, 0, 5);
        office.rumour(4, 1, 4);
        office.rumour(6, 1, 1);
        office.death(5, 1);
        office.death(2, 2);
        office.death(7, 0);
        int[][] due = {{0, 0, 0}, {2, 0, 4}, {3, 1, 4}, {4, 1, 4}, {5, 1, 6}, {6, 1, 4}, {7, 0, 4}, {59, 0, 4}};
        for (int[] row : due) {
            CHECKS.same("wrong(" + row[0] + ", 6, 0)", office.wrong(row[0], 6, 0), row[1]);
            CHECKS.same("wrong(" + row[0] + ", 6, 1)", office.wrong(row[0], 6, 1), row[2]);
        }
        CHECKS.same("wrong(59, 3, 0)", office.wrong(59, 3, 0), 3);
        office.annul(4);
        CHECKS.same("wrong(59, 7, 1)", office.wrong(59, 7, 1), 0);
        CHECKS.none("wrong(60, 0, 0)", office.wrong(60, 0, 0));
        CHECKS.none("wrong(-1, 0, 0)", office.wrong(-1, 0, 0));
        CHECKS.none("wrong(0, 8, 0)", office.wrong(0, 8, 0));
        CHECKS.none("wrong(0, -1, 0)", office.wrong(0, -1, 0));
        CHECKS.none("wrong(0, 0, 2)", office.wrong(0, 0, 2));
        CHECKS.none("wrong(0, 0, -1)", office.wrong(0, 0, -1));
    }

    private static void lateAndWatch() {
        AfterOffice office = CHECKS.office("person w 1; letter a w w 0 0 0 if 7<=year; letter b w w 0 0 0 if 10<=year;"
                + "letter c w w 0 0 0 if dead w;");
        int[][] due = {{1, 0, 0}, {5, 3, 0}, {7, 0, 4}, {10, 3, 0}, {11, 4, 1}, {20, 13, 10}};
        for (int[] row : due) {
            CHECKS.same("late(0, 0, " + row[0] + ")", office.late(0, 0, row[0]), row[1]);
            CHECKS.same("late(1, 0, " + row[0] + ")", office.late(1, 0, row[0]), row[2]);
            CHECKS.same("late(2, 0, " + row[0] + ")", office.late(2, 0, row[0]), -2);
        }
        int[][] watches = {{0, 1}, {1, 2}, {2, 4}, {3, 10}, {4, 11}, {5, 12}, {12, 19}, {13, 20}, {59, 20}};
        for (int[] row : watches) {
            CHECKS.same("watch(0, " + row[0] + ")", office.watch(0, row[0]), row[1]);
        }
        office.early(8, 1);
        CHECKS.same("late by hand", office.late(1, 1, 20), 0);
        CHECKS.same("watch without what is opened by hand", office.watch(1, 0), 7);
        office.early(9, 0);
        CHECKS.same("by a look here and by hand there", office.late(0, 2, 10), -2);
        CHECKS.same("late by looks ahead of the hand", office.late(0, 2, 8), 1);
        CHECKS.same("watch ahead of the hand", office.watch(2, 0), 7);
        CHECKS.same("watch ahead of the hand, one late", office.watch(2, 1), 8);
        CHECKS.same("what is opened by hand there is not in time", office.watch(2, 59), 8);
        CHECKS.none("late(3, 0, 1)", office.late(3, 0, 1));
        CHECKS.none("late(-1, 0, 1)", office.late(-1, 0, 1));
        CHECKS.none("late(0, 3, 1)", office.late(0, 3, 1));
        CHECKS.none("late(0, -1, 1)", office.late(0, -1, 1));
        CHECKS.none("late(0, 0, 0)", office.late(0, 0, 0));
        CHECKS.none("late(0, 0, 21)", office.late(0, 0, 21));
        CHECKS.none("watch(3, 0)", office.watch(3, 0));
        CHECKS.none("watch(-1, 0)", office.watch(-1, 0));
        CHECKS.none("watch(0, -1)", office.watch(0, -1));
        CHECKS.none("watch(0, 60)", office.watch(0, 60));
    }

    private static void sooner() {
        AfterOffice office = CHECKS.office("person w 1; letter a w w 0 0 0 if not read b and year==4 or year==20;"
                + "letter b w w 0 0 0 if year==3; good=100+late;");
        CHECKS.same("opened sooner", office.late(0, 0, 4), -16);
        CHECKS.same("not opened", office.late(1, 0, 4), -2);
        CHECKS.same("only each year opens both", office.watch(0, 59), 1);
        CHECKS.same("gain each year", office.gain(0, 1), 200);
        CHECKS.same("gain each 4 years", office.gain(0, 4), 84);
        CHECKS.same("gain each 3 years", office.gain(0, 3), 100);
    }

    private static void soonerByTwo() {
        AfterOffice office = CHECKS.office("person w 1; letter a w w 0 0 0 if not read b and year==4 or year==6;"
                + "letter b w w 0 0 0 if 3<=year; good=100+late;");
        CHECKS.same("opened two years sooner", office.late(0, 0, 4), -2);
        CHECKS.same("one late", office.late(1, 0, 4), 1);
        CHECKS.same("two years sooner is in time", office.watch(0, 1), 4);
        CHECKS.same("gain of both", office.gain(0, 4), 199);
    }

    private static void yearlyByHand() {
        String text = "person p 1; letter a p p 0 0 0 if year==1; letter b p p 0 0 0 if not read a and 3<=year;";
        AfterOffice office = CHECKS.office(text + "good=5+late;");
        office.early(10, 1);
        CHECKS.same("by hand here", office.run(1, 1, 1, 0), 2);
        CHECKS.same("by a look there", office.run(1, 1, 2, 0), 1);
        CHECKS.same("late by hand here and by a look there", office.late(1, 1, 2), -2);
        CHECKS.same("late by hand in both", office.late(1, 1, 11), 0);
        CHECKS.same("gain of what the yearly run opens by hand", office.gain(1, 2), 3);
        CHECKS.same("none by hand with both", office.gain(1, 11), 0);
        CHECKS.same("what is opened by hand here needs no look", office.watch(1, 0), 1);
        AfterOffice better = CHECKS.office(text + "good=5-late;");
        better.early(10, 1);
        CHECKS.same("first look", better.looks(1, 0), 0);
        CHECKS.same("second look, for what the yearly run opens by hand", better.looks(1, 1), 3);
        CHECKS.same("its gain", better.looks(1, 2), 7);
    }

    private static void gains() {
        AfterOffice office = CHECKS.office("person w 1; letter a w w 2 0 0 if not read b and year==4;"
                + "letter b w w 3 0 0 if year==3; good=10+late*2+shelf*100+age;");
        CHECKS.same("gain each year", office.gain(0, 1), 310);
        CHECKS.same("gain of what no yearly look opens", office.gain(0, 4), 206);
        CHECKS.same("gain of none", office.gain(0, 5), 0);
        office.early(3, 1);
        CHECKS.same("none by hand", office.gain(1, 1), 0);
        CHECKS.none("gain(2, 1)", office.gain(2, 1));
        CHECKS.none("gain(-1, 1)", office.gain(-1, 1));
        CHECKS.none("gain(0, 0)", office.gain(0, 0));
        CHECKS.none("gain(0, 21)", office.gain(0, 21));
        AfterOffice held = CHECKS.office("person w 1; letter a w w 0 0 0 if 5<=year; letter b w w 0 0 0; good=year*200;");
        CHECKS.same("held to 999", held.gain(0, 1), 999);
        AfterOffice below = CHECKS.office("person w 1; letter a w w 0 0 0 if 5<=year; letter b w w 0 0 0; good=3-year;");
        CHECKS.same("held to 0", below.gain(0, 1), 3);
        AfterOffice broken = CHECKS.office("person w 1; letter a w w 0 0 0 if 5<=year; letter b w w 0 0 0; good=3+1/year;");
        CHECKS.same("divided by 0", broken.gain(0, 1), 3);
        AfterOffice untold = CHECKS.office("person w 1; letter a w w 0 0 0;");
        CHECKS.same("good not told", untold.gain(0, 1), 0);
    }

    private static void nexts() {
        AfterOffice office = CHECKS.office("person w 1; letter a w w 0 0 0 if 5<=year; letter b w w 0 0 0 if 9<=year;");
        int[][] due = {{0, 5}, {4, 5}, {5, 9}, {8, 9}, {9, -2}, {59, -2}};
        for (int[] row : due) {
            CHECKS.same("next(" + row[0] + ", 0)", office.next(row[0], 0), row[1]);
        }
        office.early(2, 0);
        CHECKS.same("by hand is not meant", office.next(0, 1), 9);
        CHECKS.none("next(60, 0)", office.next(60, 0));
        CHECKS.none("next(-1, 0)", office.next(-1, 0));
        CHECKS.none("next(0, 2)", office.next(0, 2));
        CHECKS.none("next(0, -1)", office.next(0, -1));
    }

    private static void twoLooks(String text, int a, int b, int sum) {
        AfterOffice office = CHECKS.office(text);
        CHECKS.same("looks(0, 0) of " + text, office.looks(0, 0), a);
        CHECKS.same("looks(0, 1) of " + text, office.looks(0, 1), b);
        CHECKS.same("looks(0, 2) of " + text, office.looks(0, 2), sum);
    }

    private static void looks() {
        String two = "person w 1; letter a w w 0 0 0 if 5<=year; letter b w w 1 0 0 if 9<=year;";
        twoLooks(two, 0, 1, 0);
        twoLooks(two + "good=20-late;", 5, 9, 40);
        twoLooks(two + "good=1;", 0, 9, 2);
        twoLooks(two + "good=year;", 0, 59, 118);
        twoLooks(two + "good=shelf*(30-year);", 0, 9, 21);
        twoLooks(two + "good=(1-shelf)*(30-year);", 0, 5, 25);
        String once = "person w 1; letter a w w 0 0 0 if year==3; letter b w w 0 0 0 if year==7;";
        twoLooks(once + "good=1;", 3, 7, 2);
        // What the first look opens is shut for the second one, and ends what asks for its being shut.
        twoLooks("person w 1; letter a w w 0 0 0 if year==3; letter b w w 0 0 0 if year==7 and not read a; good=late+5;",
                0, 3, 5);
        twoLooks("person w 1; letter a w w 0 0 0 if 3<=year; letter b w w 0 0 0 if read a and 7<=year; good=9-late;",
                3, 7, 18);
        AfterOffice office = CHECKS.office(two + "good=20-late;");
        office.flood(7, 1);
        CHECKS.same("looks(1, 0)", office.looks(1, 0), 0);
        CHECKS.same("looks(1, 1)", office.looks(1, 1), 5);
        CHECKS.same("looks(1, 2)", office.looks(1, 2), 20);
        AfterOffice rumours = CHECKS.office("person w 1; person r 1; letter a w r 0 99 7 if dead w; good=20-late;");
        rumours.death(4, 0);
        rumours.rumour(6, 0, 10);
        CHECKS.same("looks by rumours, not by truth", rumours.looks(2, 1), 6);
        CHECKS.same("their sum", rumours.looks(2, 2), 20);
        CHECKS.none("looks(2, 0)", office.looks(2, 0));
        CHECKS.none("looks(-1, 0)", office.looks(-1, 0));
        CHECKS.none("looks(0, 3)", office.looks(0, 3));
        CHECKS.none("looks(0, -1)", office.looks(0, -1));
    }

    public static void main(String[] args) {
        rumoursMakeDead();
        takenBackByNumbers();
        openedByHand();
        theLastYear();
        tenAtOnce();
        datesAndFloods();
        feesAndLapses();
        orderOfOpening();
        reasons();
        truth();
        wrongs();
        lateAndWatch();
        sooner();
        soonerByTwo();
        yearlyByHand();
        gains();
        nexts();
        looks();
        CHECKS.end();
    }
}
