/** Promises 20 to 31: each bound of what can be asked of a run, on both its sides. */
public final class AskBoundsTest {
    private static final Checks CHECKS = new Checks("AskBoundsTest");
    private static final Bounds USUAL = new Bounds(CHECKS, Bounds::usual);
    private static final String PAIR = "person w 1;person r 1;";

    /* Ten letters of the same kind, with the names la .. lj. */
    private static String tenLetters(String behind) {
        StringBuilder text = new StringBuilder();
        for (char name = 'a'; name < 'k'; name++) {
            text.append("letter l").append(name).append(' ').append(behind).append(';');
        }
        return text.toString();
    }

    private static void runs() {
        CHECKS.sentence("1 the YEAR of that (KEPT: -2), 2 what is left of what was LAID IN. NONE: no such ones.");
        USUAL.edges("run(x, 5, 1, 1)", 0, 6, 1, 7, (office, x) -> office.run(x, 5, 1, 1));
        USUAL.edges("run(0, x, 1, 0)", 0, 0, 5, 1, (office, x) -> office.run(0, x, 1, 0));
        USUAL.edges("run(0, 5, x, 1)", 1, 6, 20, 20, (office, x) -> office.run(0, 5, x, 1));
        USUAL.edges("run(0, 5, 1, x)", 0, 1, 2, 991, (office, x) -> office.run(0, 5, 1, x));
        USUAL.answers("run(0, 2, 1, 1) of one that is KEPT", -2, office -> office.run(0, 2, 1, 1));
        Bounds ten = new Bounds(CHECKS, Bounds.of(PAIR + tenLetters("w r 0 9 9")));
        ten.edges("run(x, 0, 1, 0) of ten", 0, 1, 9, 1, (office, x) -> office.run(x, 0, 1, 0));
        Bounds none = new Bounds(CHECKS, Bounds.of(PAIR));
        none.refuses("run(0, 0, 1, 0) without letters", office -> office.run(0, 0, 1, 0));
    }

    private static void opened() {
        CHECKS.sentence("The i-th LETTER that is OPENED in the LOOK of a YEAR (k 1); NONE: not so many, no such ones.");
        Bounds both = new Bounds(CHECKS, () -> {
            AfterOffice office = Bounds.of("person w 1;letter a w w 0 0 0;letter b w w 0 0 0 if year==59;"
                    + "letter c w w 0 0 0 if year==59;").get();
            office.flood(9, 3);
            return office;
        });
        both.edges("opened(x, 0, 0)", 0, 0, 59, 1, (office, x) -> office.opened(x, 0, 0));
        both.edges("opened(59, x, 1)", 0, 2, 1, 2, (office, x) -> office.opened(59, x, 1));
        both.edges("opened(59, 1, x)", 0, 1, 1, 2, (office, x) -> office.opened(59, 1, x));
        both.edges("opened(0, 1, x)", 0, 0, 0, 0, (office, x) -> office.opened(0, 1, x));
        both.refuses("opened(1, 0, 0), none", office -> office.opened(1, 0, 0));
        both.refuses("opened(58, 0, 0), none", office -> office.opened(58, 0, 0));
        Bounds ten = new Bounds(CHECKS, Bounds.of(PAIR + tenLetters("w r 0 9 9")));
        ten.edges("opened(0, 0, x) of ten", 0, 0, 9, 9, (office, x) -> office.opened(0, 0, x));
        USUAL.answers("opened(6, 5, 0)", 0, office -> office.opened(6, 5, 0));
        USUAL.refuses("opened(6, 5, 1)", office -> office.opened(6, 5, 1));
        USUAL.refuses("opened(6, 2, 0)", office -> office.opened(6, 2, 0));
    }

    private static void reasons() {
        CHECKS.sentence("0 it is (then, or ahead, or EARLY), 1 it is not KEPT, 2 COND, 3 DATE, 4 the READER, 5 the CLERK: the first that is so; NONE: no such ones.");
        USUAL.edges("why(x, 6, 5)", 0, 0, 1, 3, (office, x) -> office.why(x, 6, 5));
        USUAL.edges("why(0, x, 5)", 0, 2, 59, 0, (office, x) -> office.why(0, x, 5));
        USUAL.edges("why(0, 59, x)", 0, 2, 5, 0, (office, x) -> office.why(0, 59, x));
        int[][] byYear = {{4, 2}, {5, 5}, {6, 0}, {7, 0}};
        for (int[] row : byYear) {
            USUAL.answers("why(0, " + row[0] + ", 5)", row[1], office -> office.why(0, row[0], 5));
        }
    }

    private static void theFirstReason() {
        CHECKS.sentence("Why a LETTER is not OPENED in the LOOK of a YEAR (k 1), as it is at its end");
        // All five reasons hold in year 5; each fact or year takes the first of them away.
        String text = PAIR + "clerk c;barred c r;letter a w r 0 9 9 if 6<=year;letter b w r 1 9 9 if 6<=year;";
        AfterOffice office = CHECKS.office(text);
        office.rumour(0, 1, 10);
        office.date(0, 0, 7);
        office.flood(5, 0);
        office.annul(2);
        CHECKS.same("not KEPT ahead of all", office.why(0, 5, 3), 1);
        CHECKS.same("COND ahead of DATE", office.why(0, 5, 4), 2);
        CHECKS.same("DATE ahead of the READER", office.why(0, 6, 4), 3);
        CHECKS.same("the READER ahead of the CLERK", office.why(0, 7, 4), 4);
        office.annul(0);
        CHECKS.same("the CLERK", office.why(0, 7, 5), 5);
        office.early(8, 0);
        CHECKS.same("the CLERK till the year ahead", office.why(0, 7, 6), 5);
        CHECKS.same("EARLY in its year", office.why(0, 8, 6), 0);
        CHECKS.same("EARLY behind its year", office.why(0, 59, 6), 0);
        office.takeBack(8, 1);
        CHECKS.same("TAKEN BACK", office.why(1, 8, 7), 1);
        CHECKS.same("ahead of that", office.why(1, 7, 7), 5);
        AfterOffice lapsed = CHECKS.office(PAIR + "letter a w r 0 1 9 if dead r;");
        lapsed.rumour(3, 0, 10);
        CHECKS.same("with the last of what was LAID IN", lapsed.why(0, 3, 1), 2);
        CHECKS.same("LAPSED", lapsed.why(0, 4, 1), 1);
        AfterOffice ended = CHECKS.office("person w 1;letter a w w 0 9 9 if not read b;letter b w w 0 9 9;letter c w w 0 9 9 if not read a;");
        CHECKS.same("at the LOOK's end another one has been read", ended.why(2, 0, 0), 2);
    }

    private static void harms() {
        CHECKS.sentence("The sum of HARMS of what was opened too EARLY; NONE: no such n.");
        USUAL.edges("harm(n)", 0, 0, 5, 0, AfterOffice::harm);
        Bounds ten = new Bounds(CHECKS, () -> {
            AfterOffice office = Bounds.of(PAIR + tenLetters("w r 0 9 99 if dead w")).get();
            for (int i = 0; i < 10; i++) {
                office.early(59, i);
            }
            return office;
        });
        ten.edges("harm(n) of ten", 0, 0, 10, 990, AfterOffice::harm);
        ten.answers("harm(9) of ten", 891, office -> office.harm(9));
        AfterOffice odd = CHECKS.office(PAIR + "letter a w r 0 9 99 if year==5;");
        odd.early(6, 0);
        CHECKS.same("what a yearly look opens ahead of the hand", odd.harm(1), 0);
    }

    private static void tooSoon() {
        CHECKS.sentence("TOO SOON (bits); NONE: no such n.");
        USUAL.edges("tooSoon(n)", 0, 0, 5, 3, AfterOffice::tooSoon);
        USUAL.answers("tooSoon(3)", 0, office -> office.tooSoon(3));
        Bounds ten = new Bounds(CHECKS, () -> {
            AfterOffice office = Bounds.of(PAIR + tenLetters("w r 0 99 9 if dead w")).get();
            office.rumour(59, 0, 10);
            return office;
        });
        ten.edges("tooSoon(n) of ten", 0, 0, 1, 1023, AfterOffice::tooSoon);
    }

    private static void laterOrNever() {
        CHECKS.sentence("LETTERS that THE RUN OPENS (not EARLY), that BY TRUTH are OPENED later or never");
        int[][] cases = {{4, 0}, {5, 0}, {6, 1}, {59, 1}, {60, 1}};
        for (int[] row : cases) {
            AfterOffice office = CHECKS.office(PAIR + "letter a w r 0 99 9 if dead w;");
            office.rumour(5, 0, 10);
            office.death(row[0], 0);
            CHECKS.same("a death in " + row[0], office.tooSoon(office.count(5)), row[1]);
        }
        AfterOffice last = CHECKS.office(PAIR + "letter a w r 0 99 9 if dead w;");
        last.rumour(59, 0, 10);
        last.death(59, 0);
        CHECKS.same("both in the last year", last.tooSoon(2), 0);
        CHECKS.same("without the death", last.tooSoon(1), 1);
        AfterOffice hand = CHECKS.office(PAIR + "letter a w r 0 99 9 if dead w;");
        hand.early(5, 0);
        CHECKS.same("EARLY", hand.tooSoon(1), 0);
        hand.rumour(4, 0, 10);
        CHECKS.same("opened a year ahead of the hand, by truth by hand", hand.tooSoon(2), 1);
        AfterOffice reader = CHECKS.office(PAIR + "letter a w r 0 99 9;");
        reader.death(0, 1);
        CHECKS.same("by truth the reader is dead", reader.tooSoon(1), 1);
    }

    private static void wrongOnes() {
        CHECKS.sentence("who died by then and are not DEAD (1); NONE: no such ones.");
        USUAL.edges("wrong(x, 5, 0)", 0, 0, 59, 1, (office, x) -> office.wrong(x, 5, 0));
        USUAL.edges("wrong(59, x, 0)", 0, 0, 5, 1, (office, x) -> office.wrong(59, x, 0));
        USUAL.edges("wrong(59, 5, x)", 0, 1, 1, 0, (office, x) -> office.wrong(59, 5, x));
        int[][] cases = {{3, 0, 0}, {4, 0, 1}, {5, 0, 0}};
        for (int[] row : cases) {
            USUAL.answers("wrong(" + row[0] + ", 3, 0)", row[1], office -> office.wrong(row[0], 3, 0));
            USUAL.answers("wrong(" + row[0] + ", 3, 1)", row[2], office -> office.wrong(row[0], 3, 1));
        }
        StringBuilder text = new StringBuilder("proof 1;");
        for (char name = 'a'; name < 'k'; name++) {
            text.append("person ").append(name).append(" 1;");
        }
        AfterOffice ten = CHECKS.office(text.toString());
        for (int i = 0; i < 10; i++) {
            ten.rumour(59, i, 1);
            ten.death(59, i);
        }
        CHECKS.same("ten rightly", ten.wrong(59, 20, 0), 0);
        CHECKS.same("ten rightly", ten.wrong(59, 20, 1), 0);
        CHECKS.same("the last one wrongly", ten.wrong(59, 19, 0), 512);
        CHECKS.same("a year ahead", ten.wrong(58, 20, 1), 0);
        for (int i = 0; i < 10; i++) {
            ten.annul(2 * i);
        }
        CHECKS.same("all died unknown", ten.wrong(59, 30, 1), 1023);
        for (int i = 0; i < 10; i++) {
            ten.annul(2 * i + 1);
            ten.rumour(0, i, 1);
        }
        CHECKS.same("all are wrongly dead", ten.wrong(0, 50, 0), 1023);
        AfterOffice first = CHECKS.office("person a 1;");
        first.death(0, 0);
        CHECKS.same("a DEATH that is the first FACT", first.wrong(0, 1, 1), 1);
        CHECKS.same("ahead of it", first.wrong(0, 0, 1), 0);
    }

    private static void late() {
        CHECKS.sentence("LATE; -2: it is not OPENED (EARLY: 0) with both; NONE: no such ones.");
        USUAL.edges("late(x, 5, 4)", 0, 2, 1, 1, (office, x) -> office.late(x, 5, 4));
        USUAL.edges("late(0, x, 4)", 0, -2, 5, 2, (office, x) -> office.late(0, x, 4));
        USUAL.edges("late(0, 5, x)", 1, 0, 20, 14, (office, x) -> office.late(0, 5, x));
        AfterOffice office = CHECKS.office("person w 1;letter a w w 0 0 0 if 40<=year;letter b w w 0 0 0 if 41<=year;"
                + "letter c w w 0 0 0 if dead w;letter d w w 0 0 0 if year==1;");
        CHECKS.same("in the last look of 20", office.late(0, 0, 20), 0);
        CHECKS.same("behind the last look of 20", office.late(1, 0, 20), -2);
        CHECKS.same("in the last look of 19", office.late(1, 0, 19), 16);
        CHECKS.same("never with both", office.late(2, 0, 1), -2);
        CHECKS.same("in one year alone", office.late(3, 0, 1), 0);
        CHECKS.same("not with two", office.late(3, 0, 2), -2);
        AfterOffice last = CHECKS.office("person w 1;letter a w w 0 0 0 if 59<=year;good=9+late;");
        CHECKS.same("late in the last year", last.late(0, 0, 1), 0);
        CHECKS.same("gain in the last year", last.gain(0, 1), 9);
        office.early(50, 2);
        CHECKS.same("EARLY with both", office.late(2, 1, 20), 0);
        CHECKS.same("ahead of its being known", office.late(2, 0, 20), -2);
        office.early(50, 1);
        CHECKS.same("by a look here, by hand there", office.late(1, 2, 20), -2);
        CHECKS.same("by looks with both", office.late(1, 2, 7), 1);
        Bounds ten = new Bounds(CHECKS, Bounds.of(PAIR + tenLetters("w r 0 9 9 if 1<=year")));
        ten.edges("late(x, 0, 20) of ten", 0, 19, 9, 19, (it, x) -> it.late(x, 0, 20));
    }

    private static void watch() {
        CHECKS.sentence("WATCH; NONE: no such n, l (0 .. 59).");
        USUAL.edges("watch(x, 0)", 0, 20, 5, 1, (office, x) -> office.watch(x, 0));
        USUAL.edges("watch(5, x)", 0, 1, 59, 20, (office, x) -> office.watch(5, x));
    }

    private static void theGreatestK() {
        CHECKS.sentence("WATCH of l: the greatest k (1 .. 20) with which each LETTER that is OPENED with a LOOK each YEAR is OPENED, LATE by no more than l.");
        AfterOffice first = CHECKS.office("person w 1;letter a w w 0 0 0 if 1<=year;");
        for (int l = 0; l < 60; l++) {
            CHECKS.same("one of year 1, late by " + l, first.watch(0, l), Math.min(20, l + 1));
        }
        AfterOffice last = CHECKS.office("person w 1;letter a w w 0 0 0 if 59<=year;");
        CHECKS.same("one of year 59, a prime number", last.watch(0, 59), 1);
        AfterOffice even = CHECKS.office("person w 1;letter a w w 0 0 0 if 58<=year;");
        CHECKS.same("one of year 58", even.watch(0, 0), 2);
        CHECKS.same("one of year 58, later than 58", even.watch(0, 59), 2);
        AfterOffice forty = CHECKS.office("person w 1;letter a w w 0 0 0 if 40<=year;");
        CHECKS.same("one of year 40", forty.watch(0, 0), 20);
        AfterOffice none = CHECKS.office("person w 1;letter a w w 0 0 0 if dead w;");
        CHECKS.same("none is opened", none.watch(0, 0), 20);
        AfterOffice two = CHECKS.office("person w 1;letter a w w 0 0 0 if 12<=year;letter b w w 0 0 0 if 18<=year;");
        CHECKS.same("each of two", two.watch(0, 0), 6);
        CHECKS.same("the first is late", two.watch(0, 6), 18);
        CHECKS.same("both are late", two.watch(0, 8), 20);
        CHECKS.same("not by one less", two.watch(0, 7), 19);
    }

    private static void gains() {
        CHECKS.sentence("The sum of all GAINS (EARLY ones have none); NONE: no such ones.");
        USUAL.edges("gain(x, 1)", 0, 0, 5, 100, (office, x) -> office.gain(x, 1));
        USUAL.edges("gain(5, x)", 1, 100, 20, 73, (office, x) -> office.gain(5, x));
        Bounds ten = new Bounds(CHECKS, () -> {
            AfterOffice office = Bounds.of(PAIR + tenLetters("w r 0 9 9 if 59<=year") + "good=1000;").get();
            office.early(59, 9);
            return office;
        });
        ten.edges("gain(x, 1) of ten", 0, 9990, 1, 8991, (office, x) -> office.gain(x, 1));
        ten.answers("gain(0, 2) of none", 0, office -> office.gain(0, 2));
    }

    private static void lateOfAGain() {
        CHECKS.sentence("late: LATE by k, -2 if it is not OPENED with a LOOK each YEAR)");
        String text = "person w 1;letter a w w 0 0 0 if year==1;letter b w w 0 0 0 if not read a and 2<=year;good=";
        int[][] cases = {{2, 0}, {3, 1}, {1, 0}};
        for (int[] row : cases) {
            AfterOffice office = CHECKS.office(text + "late+" + row[0] + ";");
            CHECKS.same("late of what no yearly look opens, and " + row[0], office.gain(0, 2), row[1]);
        }
        AfterOffice later = CHECKS.office("person w 1;letter a w w 0 0 0 if 1<=year;good=late;");
        for (int k = 1; k <= 20; k++) {
            CHECKS.same("late each " + k, later.gain(0, k), k - 1);
        }
        AfterOffice year = CHECKS.office("person w 1;letter a w w 0 0 0 if 41<=year;good=year;");
        CHECKS.same("the year in which it is opened", year.gain(0, 19), 57);
        CHECKS.same("not opened", year.gain(0, 20), 0);
    }

    private static void income() {
        CHECKS.sentence("INCOME; NONE: no such ones, b below a.");
        USUAL.edges("income(x, 0, 59)", 0, 300, 5, 36, (office, x) -> office.income(x, 0, 59));
        USUAL.edges("income(5, x, 59)", 0, 36, 59, 0, (office, x) -> office.income(5, x, 59));
        USUAL.edges("income(5, 0, x)", 0, 5, 59, 36, (office, x) -> office.income(5, 0, x));
        USUAL.edges("income(0, x, 59)", 0, 300, 59, 5, (office, x) -> office.income(0, x, 59));
        USUAL.answers("income(5, 7, 7)", 1, office -> office.income(5, 7, 7));
        USUAL.answers("income(5, 6, 7)", 6, office -> office.income(5, 6, 7));
        USUAL.answers("income(5, 7, 8)", 1, office -> office.income(5, 7, 8));
        USUAL.refuses("income(5, 8, 7)", office -> office.income(5, 8, 7));
        USUAL.refuses("income(5, 1, 0)", office -> office.income(5, 1, 0));
        USUAL.refuses("income(5, 59, 58)", office -> office.income(5, 59, 58));
        USUAL.answers("income(5, 59, 59)", 0, office -> office.income(5, 59, 59));
        USUAL.answers("income(5, 0, 0)", 5, office -> office.income(5, 0, 0));
        AfterOffice most = CHECKS.office(PAIR + tenLetters("w r 0 9 9 if dead w") + "fee=1000;");
        CHECKS.same("the most that can be", most.income(0, 0, 59), 10 * 60 * 999);
        CHECKS.same("in the last year", most.income(0, 59, 59), 10 * 999);
    }

    private static void next() {
        CHECKS.sentence("NEXT; -2: none; NONE: no such ones.");
        USUAL.edges("next(x, 5)", 0, 6, 59, -2, (office, x) -> office.next(x, 5));
        USUAL.edges("next(0, x)", 0, -2, 5, 6, (office, x) -> office.next(0, x));
        int[][] cases = {{5, 6}, {6, 7}, {7, -2}, {58, -2}};
        for (int[] row : cases) {
            USUAL.answers("next(" + row[0] + ", 5)", row[1], office -> office.next(row[0], 5));
        }
        AfterOffice ends = CHECKS.office("person w 1;letter a w w 0 0 0;letter b w w 0 0 0 if 59<=year;");
        CHECKS.same("behind 0 not 0", ends.next(0, 0), 59);
        CHECKS.same("behind 58", ends.next(58, 0), 59);
        CHECKS.same("behind 59", ends.next(59, 0), -2);
        AfterOffice first = CHECKS.office("person w 1;letter a w w 0 0 0;");
        CHECKS.same("only in 0", first.next(0, 0), -2);
        AfterOffice hand = CHECKS.office("person w 1;letter a w w 0 0 0 if dead w;");
        hand.early(9, 0);
        CHECKS.same("EARLY alone", hand.next(0, 1), -2);
    }

    private static void twoLooks() {
        CHECKS.sentence("TWO LOOKS: what 0 a, 1 b, 2 the sum; NONE: no such ones.");
        USUAL.edges("looks(x, 2)", 0, 0, 5, 100, (office, x) -> office.looks(x, 2));
        USUAL.edges("looks(5, x)", 0, 6, 2, 100, (office, x) -> office.looks(5, x));
        USUAL.answers("looks(5, 1)", 7, office -> office.looks(5, 1));
    }

    private static void looks(String text, int a, int b, int sum) {
        AfterOffice office = CHECKS.office("person w 1;" + text);
        CHECKS.same("the first look of " + text, office.looks(0, 0), a);
        CHECKS.same("the second look of " + text, office.looks(0, 1), b);
        CHECKS.same("the sum of " + text, office.looks(0, 2), sum);
    }

    private static void theFirstOfAlikeLooks() {
        CHECKS.sentence("of alike ones the first a, then the first b");
        looks("", 0, 1, 0);
        looks("good=9;", 0, 1, 0);
        looks("letter a w w 0 0 0;good=9;", 0, 1, 9);
        looks("letter a w w 0 0 0 if year==0;letter b w w 0 0 0 if year==1;good=9;", 0, 1, 18);
        looks("letter a w w 0 0 0 if year==58;letter b w w 0 0 0 if year==59;good=9;", 58, 59, 18);
        looks("letter a w w 0 0 0 if year==0;letter b w w 0 0 0 if year==59;good=9;", 0, 59, 18);
        looks("letter a w w 0 0 0 if year==59;good=9;", 0, 59, 9);
        looks("letter a w w 0 0 0 if year==58;good=9;", 0, 58, 9);
        looks("letter a w w 0 0 0 if 7<=year;good=9;", 0, 7, 9);
        looks("letter a w w 0 0 0 if 7<=year;letter b w w 0 0 0 if year<=7;good=9;", 0, 7, 18);
        looks("letter a w w 0 0 0 if year==7 or year==9;letter b w w 0 0 0 if year==8 or year==9;good=9;", 0, 9, 18);
        looks("letter a w w 0 0 0 if year==5 or year==6;letter b w w 0 0 0 if year==8 or year==9;good=9;", 5, 8, 18);
        looks(tenLetters("w w 0 0 0 if 59<=year") + "good=1000;", 0, 59, 9990);
    }

    private static void betweenTwoLooks() {
        CHECKS.sentence("TWO LOOKS: the YEARS a, b (a ahead of b) in which alone there is a LOOK so that the sum of GAINS (LATE by that) is greatest");
        looks("letter a w w 0 0 0 if 59<=year;good=9+late;", 0, 59, 9);
        AfterOffice lapsed = CHECKS.office(PAIR + "letter a w r 0 3 0 if 5<=year;good=9;");
        lapsed.rumour(0, 0, 10);
        CHECKS.same("what lapses ahead of any look", lapsed.looks(1, 2), 0);
        AfterOffice flooded = CHECKS.office(PAIR + "letter a w r 0 3 0 if 5<=year;good=9;");
        flooded.flood(4, 0);
        CHECKS.same("what is lost ahead of any look", flooded.looks(1, 2), 0);
        AfterOffice rumours = CHECKS.office(PAIR + "letter a w r 0 99 0 if dead w;good=50-late;");
        rumours.rumour(2, 0, 6);
        rumours.rumour(8, 0, 6);
        CHECKS.same("the first look of what waits for a second rumour", rumours.looks(2, 0), 0);
        CHECKS.same("the second look of that", rumours.looks(2, 1), 8);
        CHECKS.same("its gain", rumours.looks(2, 2), 50);
        rumours.tooSoon(2);
        CHECKS.same("the first look, asked behind what is BY TRUTH", rumours.looks(2, 0), 0);
        AfterOffice hand = CHECKS.office(PAIR + "letter a w r 0 99 0 if 5<=year;letter b w r 0 99 0 if read a and 5<=year;good=9;");
        hand.early(4, 0);
        CHECKS.same("EARLY ones have none", hand.looks(1, 2), 9);
        CHECKS.same("but have been read", hand.looks(1, 1), 5);
    }

    private static void withoutFacts() {
        CHECKS.sentence("KNOWN by n: the first n of them");
        Bounds none = new Bounds(CHECKS, Bounds.of(Bounds.USUAL_TEXT));
        none.refuses("fact(0, 0)", office -> office.fact(0, 0));
        none.refuses("annul(0)", office -> office.annul(0));
        none.edges("weighs(0, 59, n)", 0, 0, 0, 0, (office, n) -> office.weighs(0, 59, n));
        none.edges("run(0, n, 1, 1)", 0, -2, 0, -2, (office, n) -> office.run(0, n, 1, 1));
        none.edges("why(0, 59, n)", 0, 2, 0, 2, (office, n) -> office.why(0, 59, n));
        none.edges("harm(n)", 0, 0, 0, 0, AfterOffice::harm);
        none.edges("tooSoon(n)", 0, 0, 0, 0, AfterOffice::tooSoon);
        none.edges("wrong(59, n, 0)", 0, 0, 0, 0, (office, n) -> office.wrong(59, n, 0));
        none.edges("late(0, n, 1)", 0, -2, 0, -2, (office, n) -> office.late(0, n, 1));
        none.edges("watch(n, 0)", 0, 20, 0, 20, (office, n) -> office.watch(n, 0));
        none.edges("gain(n, 1)", 0, 0, 0, 0, (office, n) -> office.gain(n, 1));
        none.edges("income(n, 0, 59)", 0, 300, 0, 300, (office, n) -> office.income(n, 0, 59));
        none.edges("next(0, n)", 0, -2, 0, -2, (office, n) -> office.next(0, n));
        none.edges("looks(n, 1)", 0, 1, 0, 1, (office, n) -> office.looks(n, 1));
        Bounds open = new Bounds(CHECKS, Bounds.of("person w 1;letter a w w 0 0 0;"));
        open.edges("opened(0, n, 0)", 0, 0, 0, 0, (office, n) -> office.opened(0, n, 0));
    }

    private static void withoutLetters() {
        CHECKS.sentence("are numbered each from 0 on as they stand");
        Bounds none = new Bounds(CHECKS, Bounds.of("person a 1;person b 2;clerk c;barred c a;fee=5;good=5;dies=5;"));
        none.refuses("letter(0, 0)", office -> office.letter(0, 0));
        none.refuses("fee(0, 0)", office -> office.fee(0, 0));
        none.refuses("takeBack(0, 0)", office -> office.takeBack(0, 0));
        none.refuses("early(0, 0)", office -> office.early(0, 0));
        none.refuses("date(0, 0, 0)", office -> office.date(0, 0, 0));
        none.refuses("run(0, 0, 1, 0)", office -> office.run(0, 0, 1, 0));
        none.refuses("opened(0, 0, 0)", office -> office.opened(0, 0, 0));
        none.refuses("why(0, 0, 0)", office -> office.why(0, 0, 0));
        none.refuses("late(0, 0, 1)", office -> office.late(0, 0, 1));
        none.refuses("need(0, 0, 0, 0, 0)", office -> office.need(0, 0, 0, 0, 0));
        none.refuses("future(0, 0, 0, 0, 0)", office -> office.future(0, 0, 0, 0, 0));
        none.refuses("odds(0, 0, 1)", office -> office.odds(0, 0, 1));
        none.refuses("chance(0, 0, 1, 0)", office -> office.chance(0, 0, 1, 0));
        none.answers("rumour(59, 1, 20)", 0, office -> office.rumour(59, 1, 20));
        none.answers("flood(59, 3)", 0, office -> office.flood(59, 3));
        none.answers("watch(0, 0)", 20, office -> office.watch(0, 0));
        none.answers("gain(0, 1)", 0, office -> office.gain(0, 1));
        none.answers("income(0, 0, 59)", 0, office -> office.income(0, 0, 59));
        none.answers("next(0, 0)", -2, office -> office.next(0, 0));
        none.answers("looks(0, 0)", 0, office -> office.looks(0, 0));
        none.answers("looks(0, 1)", 1, office -> office.looks(0, 1));
        none.answers("looks(0, 2)", 0, office -> office.looks(0, 2));
        none.answers("dies(1, 59)", 5, office -> office.dies(1, 59));
    }

    public static void main(String[] args) {
        runs();
        opened();
        reasons();
        theFirstReason();
        harms();
        tooSoon();
        laterOrNever();
        wrongOnes();
        late();
        watch();
        theGreatestK();
        gains();
        lateOfAGain();
        income();
        next();
        twoLooks();
        theFirstOfAlikeLooks();
        betweenTwoLooks();
        withoutFacts();
        withoutLetters();
        CHECKS.end();
    }
}
