/** Part II of the terms on the run: what happens at its bounds in a year, on both sides of each. */
public final class RunBoundsTest {
    private static final Checks CHECKS = new Checks("RunBoundsTest");
    private static final String PAIR = "person w 1;person r 1;";

    /* State, year and what is left of a letter, with all facts and a look each k years. */
    private static void run(AfterOffice office, int letter, int k, int... due) {
        for (int what = 0; what < 3; what++) {
            String call = "run(" + letter + ", all, " + k + ", " + what + ")";
            CHECKS.same(call, office.run(letter, office.count(5), k, what), due[what]);
        }
    }

    private static void proofOrMore() {
        CHECKS.sentence("A PERSON is DEAD to the office if the RUMOURS of him that came so far weigh PROOF or more together.");
        int[][] cases = {{10, 9, 0}, {10, 10, 1}, {10, 11, 1}, {1, 1, 1}, {2, 1, 0}, {20, 19, 0}, {20, 20, 1}, {21, 20, 0},
            {99, 98, 0}, {99, 99, 1}, {99, 100, 1}};
        for (int[] row : cases) {
            AfterOffice office = CHECKS.office(PAIR + "letter a w r 0 999 0 if dead w;fee=0;proof " + row[0] + ";");
            for (int rest = row[1]; rest > 0; rest -= 20) {
                office.rumour(7, 0, Math.min(20, rest));
            }
            CHECKS.same("weight", office.weighs(0, 59, office.count(5)), row[1]);
            String name = "PROOF " + row[0] + " with " + row[1];
            CHECKS.same(name, office.run(0, office.count(5), 1, 0), row[2]);
            CHECKS.same(name + ", wrongly", office.wrong(7, office.count(5), 0), row[2]);
            CHECKS.same(name + ", a year ahead", office.wrong(6, office.count(5), 0), 0);
        }
        AfterOffice sum = CHECKS.office(PAIR + "letter a w r 0 999 0 if dead w;");
        sum.rumour(30, 0, 1);
        sum.rumour(0, 0, 5);
        sum.rumour(59, 0, 4);
        sum.rumour(0, 1, 9);
        CHECKS.same("together in the last year", sum.run(0, 4, 1, 1), 59);
        CHECKS.same("the last look of 2 years is ahead of it", sum.run(0, 4, 2, 0), 0);
    }

    private static void fromYear0To59() {
        CHECKS.sentence("YEAR by YEAR from 0 to 59");
        for (int year : new int[] {0, 1, 58, 59}) {
            AfterOffice office = CHECKS.office(PAIR + "letter a w r 0 999 0 if dead w;fee=1;");
            office.rumour(year, 0, 10);
            run(office, 0, 1, 1, year, 998);
            AfterOffice lost = CHECKS.office(PAIR + "letter a w r 0 999 0 if dead w;");
            lost.flood(year, 0);
            run(lost, 0, 1, 4, year, 999);
            AfterOffice back = CHECKS.office(PAIR + "letter a w r 0 999 0 if dead w;");
            back.takeBack(year, 0);
            run(back, 0, 1, 3, year, 999);
            AfterOffice hand = CHECKS.office(PAIR + "letter a w r 0 999 9 if dead w;");
            hand.early(year, 0);
            run(hand, 0, 1, 2, year, 999);
        }
        AfterOffice none = CHECKS.office(PAIR + "letter a w r 0 999 0 if 60<=year or year<0;");
        run(none, 0, 1, 0, -2, 999);
        CHECKS.same("sixty fees", none.income(0, 0, 59), 60);
    }

    private static void aLookEachKYears() {
        CHECKS.sentence("with a LOOK each k YEARS (1 .. 20)");
        for (int k = 1; k <= 20; k++) {
            int last = 59 / k * k;
            AfterOffice office = CHECKS.office("person w 1;letter a w w 0 0 0;letter b w w 0 0 0 if 1<=year;"
                    + "letter c w w 0 0 0 if " + last + "<=year;letter d w w 0 0 0 if " + last + "<year;");
            run(office, 0, k, 1, 0, 0);
            run(office, 1, k, 1, k, 0);
            run(office, 2, k, 1, last, 0);
            run(office, 3, k, 0, -2, 0);
        }
        Bounds usual = new Bounds(CHECKS, Bounds::usual);
        usual.edges("run(0, 5, k, 1)", 1, 6, 20, 20, (office, k) -> office.run(0, 5, k, 1));
        usual.edges("late(0, 5, k)", 1, 0, 20, 14, (office, k) -> office.late(0, 5, k));
        usual.edges("gain(5, k)", 1, 100, 20, 73, (office, k) -> office.gain(5, k));
    }

    private static void takenBackIfAlive() {
        CHECKS.sentence("BACK: a LETTER that is KEPT is TAKEN BACK, if its WRITER is not DEAD by then");
        String text = PAIR + "letter a w r 0 99 0 if dead w and dead r;fee=0;";
        int[][] cases = {{4, 10, 0}, {5, 10, 0}, {6, 10, 3}, {5, 9, 3}, {4, 9, 3}};
        for (int[] row : cases) {
            AfterOffice office = CHECKS.office(text);
            office.rumour(row[0], 0, row[1]);
            office.takeBack(5, 0);
            CHECKS.same("back in 5, a rumour of " + row[1] + " ahead in " + row[0], office.run(0, 2, 1, 0), row[2]);
        }
        AfterOffice behind = CHECKS.office(text);
        behind.takeBack(5, 0);
        behind.rumour(5, 0, 10);
        CHECKS.same("a rumour behind in the same year", behind.run(0, 2, 1, 0), 3);
        AfterOffice reader = CHECKS.office(text);
        reader.rumour(0, 1, 10);
        reader.takeBack(5, 0);
        CHECKS.same("the reader's death does not matter", reader.run(0, 2, 1, 0), 3);
        AfterOffice opened = CHECKS.office(PAIR + "letter a w r 0 99 0 if 5<=year;");
        opened.takeBack(6, 0);
        run(opened, 0, 1, 1, 5, 99);
        opened.takeBack(5, 0);
        run(opened, 0, 1, 3, 5, 99);
    }

    private static void openedByHandIfKept() {
        CHECKS.sentence("EARLY: if it is KEPT it is OPENED EARLY (and has been read), with its HARM if its COND does not hold then");
        String never = PAIR + "letter a w r 0 99 99 if dead w;letter b w r 1 99 50 if read a;";
        AfterOffice office = CHECKS.office(never);
        office.early(5, 0);
        run(office, 0, 1, 2, 5, 99);
        run(office, 1, 1, 1, 5, 99);
        CHECKS.same("harm", office.harm(1), 99);
        AfterOffice again = CHECKS.office(never);
        again.early(5, 0);
        again.early(5, 0);
        again.early(6, 0);
        run(again, 0, 1, 2, 5, 99);
        CHECKS.same("harm once", again.harm(3), 99);
        AfterOffice lost = CHECKS.office(never);
        lost.flood(5, 0);
        lost.early(5, 0);
        run(lost, 0, 1, 4, 5, 99);
        CHECKS.same("no harm of what is LOST", lost.harm(2), 0);
        AfterOffice first = CHECKS.office(never);
        first.early(5, 0);
        first.flood(5, 0);
        first.takeBack(5, 0);
        run(first, 0, 1, 2, 5, 99);
        AfterOffice lapsed = CHECKS.office(PAIR + "letter a w r 0 0 99 if dead r;");
        lapsed.rumour(0, 0, 10);
        lapsed.early(1, 0);
        run(lapsed, 0, 1, 5, 0, 0);
        CHECKS.same("no harm of what has LAPSED", lapsed.harm(2), 0);
    }

    private static void harmIfCondDoesNotHoldThen() {
        CHECKS.sentence("with its HARM if its COND does not hold then");
        int[][] cases = {{4, 99}, {5, 0}};
        for (int[] row : cases) {
            AfterOffice office = CHECKS.office("person w 1;clerk c;barred c w;letter a w w 0 0 99 if 5<=year;");
            office.early(row[0], 0);
            CHECKS.same("harm of " + row[0], office.harm(1), row[1]);
        }
        AfterOffice self = CHECKS.office("person w 1;letter a w w 0 0 99 if read a;letter b w w 0 0 9 if read a;");
        self.early(0, 0);
        self.early(0, 1);
        CHECKS.same("it has not been read then itself", self.harm(2), 99);
        AfterOffice rumours = CHECKS.office("person w 1;letter a w w 0 0 99 if dead w;");
        rumours.early(5, 0);
        rumours.rumour(5, 0, 10);
        CHECKS.same("a rumour behind it", rumours.harm(2), 99);
        AfterOffice known = CHECKS.office("person w 1;letter a w w 0 99 99 if dead w;");
        known.rumour(5, 0, 10);
        known.early(5, 0);
        CHECKS.same("a rumour ahead of it", known.harm(2), 0);
        AfterOffice date = CHECKS.office("person w 1;letter a w w 0 99 99 if year==5;");
        date.date(0, 0, 59);
        date.early(5, 0);
        CHECKS.same("a DATE does not matter", date.harm(2), 0);
    }

    private static void datesThatAreNotAhead() {
        CHECKS.sentence("its DATE is not ahead");
        for (int x : new int[] {0, 1, 58, 59}) {
            AfterOffice office = CHECKS.office("person w 1;letter a w w 0 0 0;");
            office.date(0, 0, x);
            CHECKS.same("opened with DATE " + x, office.run(0, 1, 1, 1), x);
            CHECKS.same("why in " + x, office.why(0, x, 1), 0);
            if (x > 0) {
                CHECKS.same("why ahead of " + x, office.why(0, x - 1, 1), 3);
            }
        }
        AfterOffice late = CHECKS.office("person w 1;letter a w w 0 0 0 if 5<=year;");
        late.date(5, 0, 6);
        CHECKS.same("a DATE of the year itself", late.run(0, 1, 1, 1), 6);
        late.annul(0);
        late.date(6, 0, 9);
        CHECKS.same("a DATE of a year later", late.run(0, 3, 1, 1), 5);
    }

    private static void theLatestDateCounts() {
        CHECKS.sentence("DATE: from now on it is that LETTER's (the latest one told counts)");
        AfterOffice office = CHECKS.office("person w 1;letter a w w 0 0 0 if 2<=year;letter b w w 0 0 0 if 2<=year;");
        office.date(0, 0, 59);
        office.date(0, 0, 8);
        CHECKS.same("the second of a year", office.run(0, 2, 1, 1), 8);
        CHECKS.same("not the other letter's", office.run(1, 2, 1, 1), 2);
        office.date(7, 0, 59);
        CHECKS.same("one of the year ahead of it", office.run(0, 3, 1, 1), 59);
        office.date(9, 0, 0);
        CHECKS.same("one of a later year", office.run(0, 4, 1, 1), 9);
        office.annul(2);
        CHECKS.same("with a VOID", office.run(0, 5, 1, 1), 8);
    }

    private static void withoutADate() {
        CHECKS.sentence("At first all LETTERS are KEPT, without a DATE.");
        AfterOffice office = CHECKS.office("person w 1;letter a w w 0 0 0;letter b w w 0 0 0 if dead w;");
        office.date(1, 0, 59);
        office.date(1, 1, 59);
        CHECKS.same("opened ahead of the DATE's year", office.run(0, 2, 1, 1), 0);
        CHECKS.same("why of one that waits", office.why(1, 0, 2), 2);
        run(office, 1, 1, 0, -2, 0);
        CHECKS.same("again, as at first", office.run(0, 0, 20, 1), 0);
    }

    private static void floodsOfAShelf() {
        CHECKS.sentence("FLOOD: all LETTERS that are KEPT on that SHELF are LOST.");
        for (int shelf = 0; shelf < 4; shelf++) {
            AfterOffice office = CHECKS.office("person w 1;letter a w w 0 7 0 if 9<=year;letter b w w 1 7 0 if 9<=year;"
                    + "letter c w w 2 7 0 if 9<=year;letter d w w 3 7 0 if 9<=year;letter e w w " + shelf + " 7 0;");
            office.flood(9, shelf);
            for (int letter = 0; letter < 4; letter++) {
                run(office, letter, 1, letter == shelf ? 4 : 1, 9, 7);
            }
            run(office, 4, 1, 1, 0, 7);
            AfterOffice behind = CHECKS.office("person w 1;letter a w w " + shelf + " 7 0 if 9<=year;");
            behind.flood(10, shelf);
            run(behind, 0, 1, 1, 9, 7);
        }
    }

    private static void lessLeftThanTheFee() {
        CHECKS.sentence("if there is less left than that, what is left is paid and it LAPSES");
        // LAID IN, the fee, the state, its year, what is left, all that is paid, with the writer dead from year 0 on.
        int[][] cases = {{12, 4, 5, 3, 0, 12}, {11, 4, 5, 2, 0, 11}, {13, 4, 5, 3, 0, 13}, {0, 0, 0, -2, 0, 0},
            {0, 1, 5, 0, 0, 0}, {1, 1, 5, 1, 0, 1}, {999, 999, 5, 1, 0, 999}, {998, 999, 5, 0, 0, 998},
            {60, 1, 0, -2, 0, 60}, {59, 1, 5, 59, 0, 59}, {61, 1, 0, -2, 1, 60}, {999, 0, 0, -2, 999, 0}};
        for (int[] row : cases) {
            AfterOffice office = CHECKS.office(PAIR + "letter a w r 0 " + row[0] + " 0 if dead r;fee=" + row[1] + ";");
            office.rumour(0, 0, 10);
            run(office, 0, 1, row[2], row[3], row[4]);
            CHECKS.same("paid of " + row[0] + " by " + row[1], office.income(1, 0, 59), row[5]);
        }
    }

    private static void theFeeIsPaidByTheWriter() {
        CHECKS.sentence("the fee (what fee says, held to 0 .. 999) is paid: by the WRITER, or, if he is DEAD, out of what is LAID IN");
        AfterOffice office = CHECKS.office(PAIR + "letter a w r 0 5 0 if dead r;letter b r w 0 5 0 if dead r;fee=2;");
        office.rumour(10, 0, 10);
        run(office, 0, 1, 5, 12, 0);
        run(office, 1, 1, 0, -2, 5);
        CHECKS.same("both writers live", office.income(1, 9, 9), 4);
        CHECKS.same("one is dead", office.income(1, 10, 10), 4);
        CHECKS.same("the last of what was LAID IN", office.income(1, 12, 12), 3);
        CHECKS.same("behind it", office.income(1, 13, 13), 2);
        AfterOffice ahead = CHECKS.office(PAIR + "letter a w r 0 0 0;letter b w r 0 1 0;");
        ahead.rumour(0, 0, 10);
        run(ahead, 0, 1, 5, 0, 0);
        run(ahead, 1, 1, 1, 0, 0);
        CHECKS.same("it lapses ahead of the LOOK", ahead.opened(0, 1, 0), 1);
        AfterOffice dear = CHECKS.office(PAIR + "letter a w r 0 999 0 if dead r;fee=1000;");
        CHECKS.same("a fee that is held", dear.income(0, 0, 59), 60 * 999);
    }

    private static void theReaderIsNotDead() {
        CHECKS.sentence("its READER is not DEAD");
        int[][] cases = {{4, 10, 0}, {5, 10, 0}, {5, 9, 1}, {6, 10, 1}};
        for (int[] row : cases) {
            AfterOffice office = CHECKS.office(PAIR + "letter a w r 0 99 0 if 5<=year;");
            office.rumour(row[0], 1, row[1]);
            CHECKS.same("a rumour of " + row[1] + " in " + row[0], office.run(0, 1, 1, 0), row[2]);
            CHECKS.same("why in 5, " + row[1] + " in " + row[0], office.why(0, 5, 1), row[2] == 1 ? 0 : 4);
        }
    }

    private static void theClerkIsNotBarred() {
        CHECKS.sentence("the CLERK of the YEAR (its rest by how many CLERKS there are) is not BARRED from opening for him (without CLERKS nobody is)");
        for (int clerks = 0; clerks <= 4; clerks++) {
            for (int free = 0; free <= clerks; free++) {
                StringBuilder text = new StringBuilder(PAIR);
                for (int i = 0; i < clerks; i++) {
                    text.append("clerk c").append((char) ('a' + i)).append(';');
                }
                for (int i = 0; i < clerks; i++) {
                    text.append(i == free ? "" : "barred c" + (char) ('a' + i) + " r;");
                }
                AfterOffice office = CHECKS.office(text + "letter a w r 0 9 0;letter b r w 0 9 0;");
                boolean never = clerks > 0 && free == clerks;
                String name = clerks + " clerks, free " + free;
                CHECKS.same(name, office.run(0, 0, 1, 1), never ? -2 : free);
                CHECKS.same(name + ", the writer", office.run(1, 0, 1, 1), 0);
                CHECKS.same(name + ", why in 59", office.why(0, 59, 0), never ? 5 : 0);
            }
        }
    }

    private static void tillNoneIsDue() {
        CHECKS.sentence("the LETTER of the least number that is DUE is OPENED (and has been read), and so on anew till none is DUE");
        StringBuilder text = new StringBuilder("person w 1;");
        for (char name = 'a'; name < 'k'; name++) {
            text.append("letter ").append(name).append(" w w 0 0 0");
            text.append(name < 'j' ? " if read " + (char) (name + 1) : " if year==59").append(';');
        }
        AfterOffice office = CHECKS.office(text.toString());
        for (int i = 0; i < 10; i++) {
            CHECKS.same("opened(59, 0, " + i + ")", office.opened(59, 0, i), 9 - i);
        }
        CHECKS.none("opened(59, 0, 10)", office.opened(59, 0, 10));
        AfterOffice two = CHECKS.office("person w 1;letter a w w 0 0 0 if not read b;letter b w w 0 0 0 if not read a;");
        CHECKS.same("the least number", two.opened(0, 0, 0), 0);
        CHECKS.none("the other one is not due any more", two.opened(0, 0, 1));
        CHECKS.same("nor later", two.run(1, 0, 1, 0), 0);
    }

    public static void main(String[] args) {
        proofOrMore();
        fromYear0To59();
        aLookEachKYears();
        takenBackIfAlive();
        openedByHandIfKept();
        harmIfCondDoesNotHoldThen();
        datesThatAreNotAhead();
        theLatestDateCounts();
        withoutADate();
        floodsOfAShelf();
        lessLeftThanTheFee();
        theFeeIsPaidByTheWriter();
        theReaderIsNotDead();
        theClerkIsNotBarred();
        tillNoneIsDue();
        CHECKS.end();
    }
}
