/** The sentences that say what a word means, from the document's first line on: one method for each, reckoned by hand. */
public final class TermsTest {
    private static final Checks CHECKS = new Checks("TermsTest");
    private static final String THREE = "person a 30; person b 40; person c 50;";
    private static final int A = 1;
    private static final int B = 2;
    private static final int C = 4;

    private static AfterOffice office(String text) {
        return CHECKS.office(text);
    }

    private static void same(String what, long got, long due) {
        CHECKS.same(what, got, due);
    }

    /* Nothing more is needed by what holds. */
    private static boolean holds(AfterOffice office, int letter, int year, int dead, int been) {
        return office.need(letter, year, dead, been, 0) == 0;
    }

    private static void ran(AfterOffice office, int letter, int n, int k, int state, int year) {
        String run = "run(" + letter + ", " + n + ", " + k + ", ";
        same(run + "0)", office.run(letter, n, k, 0), state);
        same(run + "1)", office.run(letter, n, k, 1), year);
    }

    private static void calls() {
        CHECKS.sentence("An object is used for at most 512 calls after it has been made;");
        AfterOffice office = new AfterOffice();
        for (int call = 1; call < 512; call++) {
            same("call " + call, office.flood(call % 60, call % 4), call <= 60 ? call - 1 : -1);
        }
        same("call 512", office.fact(59, 2), 0);
    }

    /* Each tell is good as it stands, and no text goes on with what comes where a token was left out. */
    private static void tells() {
        CHECKS.sentence("text: {TELL}.");
        CHECKS.good("");
        CHECKS.good("clerk x; clerk y; proof 3;");
        CHECKS.at(1, "clerk x;|; clerk y;");
        CHECKS.sentence("TELL: 'person' NAME INT ';' | 'clerk' NAME ';' | 'barred' NAME NAME ';' | 'letter' NAME NAME"
                + " NAME INT INT INT ['if' COND] ';' | 'proof' INT ';' | ('dies' | 'fee' | 'good') '=' E ';'.");
        String[] tells = {"person p 5 ;", "clerk k ;", "barred x a ;", "letter l a b 3 5 7 ;",
            "letter l a b 3 5 7 if dead a ;", "proof 7 ;", "dies = 7 ;", "fee = 7 ;", "good = 7 ;"};
        for (String tell : tells) {
            CHECKS.good("person a 1; person b 2; clerk x; " + tell);
            withoutOne("person a 1; person b 2; clerk x; ", tell.split(" "));
        }
    }

    private static void withoutOne(String ahead, String[] tokens) {
        for (int left = 0; left < tokens.length; left++) {
            StringBuilder text = new StringBuilder(ahead);
            int place = -1;
            for (int i = 0; i < tokens.length; i++) {
                if (place < 0 && i > left && !kind(tokens[i]).equals(kind(tokens[left]))) {
                    place = text.length();
                }
                text.append(i == left ? "" : tokens[i] + " ");
            }
            CHECKS.fault(text.toString(), 1, place < 0 ? text.length() : place);
        }
    }

    private static String kind(String token) {
        return token.matches("[a-z]") ? "NAME" : token.matches("[0-9]") ? "INT" : token;
    }

    /* Of people a, b and c any may be dead; letter l has been read or not. */
    private static void table(String condition, String dueByDead) {
        AfterOffice office = office(THREE + "letter l a b 0 0 0 if " + condition + ";");
        for (int dead = 0; dead < 8; dead++) {
            CHECKS.same(condition + " with the dead " + dead, holds(office, 0, 3, dead, 0), dueByDead.charAt(dead) == '1');
        }
    }

    private static void conditions() {
        CHECKS.sentence("COND: ALL {'or' ALL}.");
        table("dead a or dead b", "01110111");
        table("dead a or dead b or dead c", "01111111");
        table("dead a and dead b or dead c", "00011111");
        table("dead a or dead b and dead c", "01010111");
        CHECKS.sentence("ALL: LIT {'and' LIT}.");
        table("dead a and dead b", "00010001");
        table("dead a and dead b and dead c", "00000001");
        table("dead a and dead b or dead b and dead c", "00010011");
    }

    private static void literals() {
        CHECKS.sentence("LIT: 'not' LIT | 'dead' NAME | 'read' NAME | E ('==' | '!=' | '<' | '<=') E.");
        table("not dead a", "10101010");
        table("not not dead a", "01010101");
        table("not dead a and dead b", "00100010");
        table("not dead a or dead b", "10111011");
        AfterOffice office = office("person a 1; letter l a a 0 0 0 if read m; letter m a a 0 0 0 if not read m;");
        CHECKS.same("read m", holds(office, 0, 0, 0, 2), true);
        CHECKS.same("read m, of l", holds(office, 0, 0, 0, 1), false);
        CHECKS.same("not read m", holds(office, 1, 0, 0, 2), false);
        compares("year == 3", "00010");
        compares("year != 3", "11101");
        compares("year < 3", "11100");
        compares("year <= 3", "11110");
        compares("not year < 3", "00011");
        compares("3 <= year", "00011");
    }

    private static void compares(String condition, String dueByYear) {
        AfterOffice office = office("person a 1; letter l a a 0 0 0 if " + condition + ";");
        for (int year = 0; year < dueByYear.length(); year++) {
            CHECKS.same(condition + " in " + year, holds(office, 0, year, 0, 0), dueByYear.charAt(year) == '1');
        }
    }

    private static void fee(String rule, int year, int due) {
        same("fee=" + rule, office("person a 1; letter l a a 2 0 0; fee=" + rule + ";").fee(0, year), due);
    }

    private static void expressions() {
        CHECKS.sentence("E: PART {('+' | '-') PART}.");
        fee("10-3-2", 0, 5);
        fee("10-3+2", 0, 9);
        CHECKS.sentence("PART: UNIT {('*' | '/') UNIT}.");
        fee("12/3*2", 0, 8);
        fee("12*5/7", 0, 8);
        fee("100/7/2", 0, 7);
        fee("2+3*4", 0, 14);
        fee("20-12/4-1", 0, 16);
        CHECKS.sentence("UNIT: INT | VAR | '(' E ')'.");
        fee("(2+3)*4", 0, 20);
        fee("20-(12/(4-1))", 0, 16);
        fee("0042", 0, 42);
        fee("year", 31, 31);
        CHECKS.sentence("VAR: 'year' | 'age' | 'shelf' | 'late'.");
        fee("year*10+shelf", 5, 52);
        fee("3+age+late", 5, 3);
    }

    private static void whatIsTold() {
        CHECKS.sentence("PEOPLE (an AGE 0 .. 99 in YEAR 0), CLERKS, who is BARRED (a CLERK, from opening for a PERSON)");
        AfterOffice office = office("person a 7; clerk x; person b 99; clerk y; barred y a; dies = age;"
                + "letter l b a 3 999 99; letter m a b 0 0 0 if 1 == 2; letter o b b 1 500 50;");
        same("the age of a", office.dies(0, 0), 7);
        same("of b", office.dies(1, 0), 99);
        same("x for a", office.barred(0, 0), 0);
        same("y for a", office.barred(1, 0), 1);
        same("y for b", office.barred(1, 1), 0);
        CHECKS.sentence("LETTERS (a NAME, the WRITER, the READER, both PEOPLE; a SHELF 0 .. 3, what is LAID IN 0 .. 999,"
                + " the HARM 0 .. 99 if it is opened too early; a COND, which always holds if none is told)");
        int[][] due = {{1, 0, 3, 999, 99}, {0, 1, 0, 0, 0}, {1, 1, 1, 500, 50}};
        for (int letter = 0; letter < 3; letter++) {
            for (int what = 0; what < 5; what++) {
                same("letter(" + letter + ", " + what + ")", office.letter(letter, what), due[letter][what]);
            }
        }
        CHECKS.same("no condition", holds(office, 0, 0, 0, 0) && holds(office, 2, 59, 3, 7), true);
        CHECKS.same("one that never holds", holds(office, 1, 0, 0, 0), false);
    }

    private static void whoMustBeTold() {
        CHECKS.sentence("(barred: a CLERK, a PERSON; letter: its second and third NAME PEOPLE; dead: a PERSON)");
        String told = "person a 1; clerk x; letter l a a 0 0 0; ";
        CHECKS.at(4, told + "barred |a a;");
        CHECKS.at(4, told + "barred |l a;");
        CHECKS.at(4, told + "barred x |x;");
        CHECKS.at(4, told + "barred x |l;");
        CHECKS.at(4, told + "letter m |x a 0 0 0;");
        CHECKS.at(4, told + "letter m |l a 0 0 0;");
        CHECKS.at(4, told + "letter m |m a 0 0 0;");
        CHECKS.at(4, told + "letter m a |x 0 0 0;");
        CHECKS.at(4, told + "letter m a |b 0 0 0; person b 2;");
        CHECKS.at(4, told + "letter m a a 0 0 0 if dead |x;");
        CHECKS.at(4, told + "letter m a a 0 0 0 if dead |l;");
        CHECKS.at(4, told + "letter m a a 0 0 0 if dead a and dead |b; person b 2;");
    }

    private static void kindsOfFacts() {
        CHECKS.sentence("Of a FACT: what 0: 0 RUMOUR, 1 DEATH, 2 BACK, 3 EARLY, 4 DATE, 5 FLOOD, 6 VOID, 1 its YEAR,"
                + " 2 the PERSON, LETTER, SHELF, or the FACT that a VOID names, 3 the weight, or x.");
        AfterOffice office = office(THREE + "letter l a b 0 0 0; letter m a b 0 0 0;");
        office.rumour(9, 2, 20);
        office.death(8, 1);
        office.takeBack(7, 1);
        office.early(6, 0);
        office.date(5, 1, 44);
        office.flood(4, 3);
        office.annul(2);
        int[][] due = {{0, 9, 2, 20}, {1, 8, 1, -1}, {2, 7, 1, -1}, {3, 6, 0, -1}, {4, 5, 1, 44}, {5, 4, 3, -1},
            {6, -1, 2, -1}};
        for (int fact = 0; fact < due.length; fact++) {
            for (int what = 0; what < 4; what++) {
                same("fact(" + fact + ", " + what + ")", office.fact(fact, what), due[fact][what]);
            }
        }
    }

    private static void factsOfYears() {
        CHECKS.sentence("Each but a VOID is of a YEAR (0 .. 59):");
        for (int year = -1; year <= 60; year++) {
            AfterOffice office = office("person a 1; letter l a a 0 0 0;");
            int[] told = {office.rumour(year, 0, 1), office.death(year, 0), office.takeBack(year, 0), office.early(year, 0),
                office.date(year, 0, 5), office.flood(year, 0)};
            boolean such = year >= 0 && year < 60;
            for (int kind = 0; kind < 6; kind++) {
                same("kind " + kind + " in year " + year, told[kind], such ? kind : -1);
                same("its year", office.fact(kind, 1), such ? year : -1);
            }
        }
    }

    private static void whatFactsDo() {
        CHECKS.sentence("RUMOUR: of a PERSON's death, a weight 1 .. 20.");
        AfterOffice office = office(THREE + "letter l a b 0 99 0 if dead c; letter m b a 1 99 0 if dead c; proof 20;");
        office.rumour(3, 2, 1);
        same("weight 1", office.weighs(2, 3, 1), 1);
        office.rumour(3, 2, 20);
        same("weight 20 more", office.weighs(2, 3, 2), 21);
        ran(office, 0, 2, 1, 1, 3);
        CHECKS.sentence("BACK: the WRITER wants a LETTER back.");
        office.takeBack(2, 0);
        ran(office, 0, 3, 1, 3, 2);
        ran(office, 1, 3, 1, 1, 3);
        CHECKS.sentence("EARLY: a LETTER is opened by hand.");
        office.early(1, 0);
        ran(office, 0, 4, 1, 2, 1);
        CHECKS.sentence("DATE: a LETTER must not be opened ahead of a YEAR x (0 .. 59).");
        office.date(0, 1, 59);
        ran(office, 1, 5, 1, 1, 59);
        office.date(0, 1, 7);
        ran(office, 1, 6, 1, 1, 7);
        office.date(0, 1, 0);
        ran(office, 1, 7, 1, 1, 3);
        CHECKS.sentence("FLOOD: of a SHELF.");
        office.flood(2, 1);
        ran(office, 1, 8, 1, 4, 2);
        ran(office, 0, 8, 1, 2, 1);
    }

    private static void deathsAreNotKnown() {
        CHECKS.sentence("DEATH: a PERSON did die (the office does not know).");
        AfterOffice office = office(THREE + "letter l a b 0 9 0 if dead a; letter m c b 0 9 0 if not dead a;");
        office.death(0, 0);
        ran(office, 0, 1, 1, 0, -2);
        ran(office, 1, 1, 1, 1, 0);
        same("nothing is taken of what a laid in", office.run(0, 1, 1, 2), 9);
        CHECKS.sentence("(DEATHS do nothing.)");
        office.takeBack(0, 0);
        ran(office, 0, 2, 1, 3, 0);
    }

    private static void whatIsKnown() {
        CHECKS.sentence("THE RUN, by what is KNOWN by n, with a LOOK each k YEARS (1 .. 20): YEAR by YEAR from 0 to 59:");
        AfterOffice office = office(THREE + "letter l a b 0 99 0 if dead a; fee = 0;");
        office.rumour(30, 0, 10);
        office.rumour(10, 0, 10);
        office.annul(1);
        ran(office, 0, 0, 1, 0, -2);
        ran(office, 0, 1, 1, 1, 30);
        ran(office, 0, 2, 1, 1, 10);
        ran(office, 0, 3, 1, 1, 30);
        ran(office, 0, 2, 3, 1, 12);
        ran(office, 0, 2, 20, 1, 20);
        ran(office, 0, 3, 16, 1, 32);
    }

    private static void factsByNumbers() {
        CHECKS.sentence("FACTS of that YEAR by numbers: RUMOURS come;");
        AfterOffice office = office(THREE + "letter l a b 0 99 8 if dead a; letter m a b 1 99 3 if dead a;");
        office.early(4, 0);
        office.rumour(4, 0, 10);
        office.early(4, 1);
        office.rumour(3, 1, 20);
        same("the harm of what was opened by hand ahead of the rumour", office.harm(3), 8);
        ran(office, 0, 3, 1, 2, 4);
        ran(office, 1, 3, 1, 2, 4);
        office.annul(1);
        same("without the rumour", office.harm(5), 11);
    }

    private static void feesOfWhatIsKept() {
        CHECKS.sentence("Then of each LETTER that is KEPT the fee (what fee says, held to 0 .. 999) is paid:");
        AfterOffice office = office(THREE + "letter l a b 0 99 0 if 2 <= year; letter m a b 1 99 0 if 1 == 2; fee = 10+shelf;");
        same("both", office.income(0, 0, 0), 21);
        same("in the year of the look too", office.income(0, 2, 2), 21);
        same("but not behind it", office.income(0, 3, 3), 11);
        office.flood(5, 1);
        office.early(1, 0);
        same("not of what is lost that year", office.income(2, 5, 5), 0);
        same("not of what was opened by hand that year", office.income(2, 1, 1), 11);
    }

    private static void looksOfYears() {
        CHECKS.sentence("Then, if the YEAR divides by k, the LOOK:");
        AfterOffice office = office(THREE + "letter l a b 0 99 0 if 7 <= year; letter m a b 0 99 0;");
        int[] first = {7, 8, 9, 8, 10, 12, 7, 8, 9, 10, 11, 12, 13, 14, 15, 16, 17, 18, 19, 20};
        for (int k = 1; k <= 20; k++) {
            ran(office, 0, 0, k, 1, first[k - 1]);
            ran(office, 1, 0, k, 1, 0);
        }
        CHECKS.sentence("DUE: it is KEPT, its COND holds (dead: DEAD; read: OPENED or OPENED EARLY by then),");
        AfterOffice chain = office(THREE + "letter l a b 0 99 0 if read m; letter m a b 0 99 0 if read o;"
                + "letter o a b 0 99 0 if dead c; letter p a b 1 99 0 if not read l;");
        chain.rumour(6, 2, 10);
        ran(chain, 0, 1, 1, 1, 6);
        same("o first", chain.opened(6, 1, 0), 2);
        same("then m", chain.opened(6, 1, 1), 1);
        same("then l", chain.opened(6, 1, 2), 0);
        same("p was opened ahead", chain.opened(0, 1, 0), 3);
        chain.early(3, 1);
        ran(chain, 1, 2, 1, 2, 3);
        ran(chain, 0, 2, 1, 1, 3);
        ran(chain, 2, 2, 1, 1, 6);
    }

    private static void byTruth() {
        CHECKS.sentence("BY TRUTH: THE RUN if instead of RUMOURS DEATHS made people DEAD (each in its YEAR).");
        CHECKS.sentence("TOO SOON: LETTERS that THE RUN OPENS (not EARLY), that BY TRUTH are OPENED later or never.");
        AfterOffice office = office(THREE + "letter l a b 0 99 0 if dead a; letter m a b 0 99 0 if dead c;"
                + "letter o a b 0 99 0 if not dead c; letter p b c 0 99 0 if dead a;");
        office.rumour(5, 0, 10);
        same("never", office.tooSoon(1), 1 | 8);
        office.death(7, 0);
        same("later", office.tooSoon(2), 1 | 8);
        office.death(5, 0);
        same("in the same year", office.tooSoon(3), 0);
        office.annul(2);
        office.early(4, 3);
        same("p by hand", office.tooSoon(5), 1);
        office.death(0, 2);
        same("o never, as c is dead", office.tooSoon(6), 1 | 4);
    }

    private static void lateness() {
        CHECKS.sentence("LATE by k: how many YEARS later than with a LOOK each YEAR a LETTER is OPENED (EARLY ones 0).");
        AfterOffice office = office(THREE + "letter l a b 0 99 0 if 7 <= year; letter m a b 0 99 0 if 1 == 2; fee = 0;");
        office.early(13, 1);
        int[] due = {0, 1, 2, 1, 3, 5, 0, 1, 2, 3, 4, 5, 6, 7, 8, 9, 10, 11, 12, 13};
        for (int k = 1; k <= 20; k++) {
            same("late(0, 1, " + k + ")", office.late(0, 1, k), due[k - 1]);
            same("late(1, 1, " + k + ")", office.late(1, 1, k), 0);
            same("late(1, 0, " + k + ")", office.late(1, 0, k), -2);
        }
    }

    private static void gains() {
        CHECKS.sentence("GAIN of a LETTER that is OPENED: what good says (year: that in which it is OPENED;"
                + " late: LATE by k, -2 if it is not OPENED with a LOOK each YEAR), held to 0 .. 999.");
        AfterOffice office = office(THREE + "letter l a b 3 99 0 if 7 <= year; letter m a b 0 99 0 if 1 == 2; fee = 0;"
                + "good = year*30 + shelf*10 + late;");
        same("each year", office.gain(0, 1), 7 * 30 + 30);
        same("each 5 years", office.gain(0, 5), 10 * 30 + 30 + 3);
        same("each 18 years", office.gain(0, 18), 18 * 30 + 30 + 11);
        office.early(20, 1);
        same("by hand", office.gain(1, 1), 7 * 30 + 30);
        AfterOffice great = office(THREE + "letter l a b 0 99 0; letter m a b 1 99 0; good = 2000-shelf*1990;");
        same("held to 999, and 10", great.gain(0, 1), 999 + 10);
        AfterOffice small = office(THREE + "letter l a b 0 99 0; letter m a b 1 99 0; good = shelf*20-10;");
        same("held to 0, and 10", small.gain(0, 1), 10);
    }

    private static void incomeAndNext() {
        AfterOffice office = office(THREE + "letter l a b 0 5 0 if 4 <= year; letter m b c 1 5 0 if 8 <= year;"
                + "letter o b c 1 5 0 if 8 <= year; fee = 2;");
        CHECKS.sentence("INCOME from YEAR a to b: all fees that are paid in them (LOOK each YEAR).");
        same("years 0 to 4", office.income(0, 0, 4), 5 * 6);
        same("years 4 to 8", office.income(0, 4, 8), 6 + 4 * 4);
        same("years 9 to 59", office.income(0, 9, 59), 0);
        office.rumour(0, 1, 10);
        same("b pays out of 5 each: 2, 2, 1; a pays for what b cannot read", office.income(1, 0, 59), 2 * 5 + 60 * 2);
        same("the third year", office.income(1, 2, 2), 2 + 1 + 1);
        CHECKS.sentence("NEXT behind a YEAR: the first one later in which some LETTER is OPENED (LOOK each YEAR).");
        same("behind 0", office.next(0, 0), 4);
        same("behind 3", office.next(3, 0), 4);
        same("behind 4", office.next(4, 0), 8);
        same("behind 7", office.next(7, 0), 8);
        same("behind 8", office.next(8, 0), -2);
        same("by the rumour", office.next(4, 1), -2);
    }

    private static void asking() {
        CHECKS.sentence("A LETTER ASKS those of which its COND says read (not or not).");
        AfterOffice office = office(THREE + "letter l a b 0 0 0 if not read m or read o and 1 == 2 or not not read l;"
                + "letter m a b 0 0 0 if dead a; letter o a b 0 0 0 if read p; letter p a b 0 0 0 if not read o or read m;");
        same("asks(0)", office.asks(0), 1 | 2 | 4);
        same("asks(1)", office.asks(1), 0);
        same("asks(2)", office.asks(2), 8);
        same("asks(3)", office.asks(3), 2 | 4);
        CHECKS.sentence("A RING: LETTERS of which each ASKS on and on for each other one, or that ASK for themselves.");
        same("l asks for itself", office.ring(0), 1);
        same("m asks for none", office.ring(1), 0);
        same("o and p", office.ring(2), 4 | 8);
        same("p and o", office.ring(3), 4 | 8);
        CHECKS.sentence("How many RINGS there are.");
        same("l; o and p", office.rings(), 2);
        CHECKS.sentence("BURN (bits).");
        same("l, and rather o than p", office.burn(), 1 | 4);
        AfterOffice round = office(THREE + "letter l a b 0 0 0 if read m; letter m a b 0 0 0 if read o;"
                + "letter o a b 0 0 0 if read l; letter p a b 0 0 0 if read l;");
        same("on and on", round.ring(1), 7);
        same("p asks for the ring, which does not ask for it", round.ring(3), 0);
        same("one ring", round.rings(), 1);
        same("any one would do", round.burn(), 1);
    }

    private static void needs() {
        CHECKS.sentence("NEED of a LETTER in a YEAR, with some DEAD and some that have been read:");
        AfterOffice office = office(THREE + "letter l a b 0 0 0 if dead a and read m and 5 <= year; letter m a b 0 0 0;");
        int[][] due = {{0, 0, 2, A, 2}, {A, 0, 1, 0, 2}, {B, 0, 2, A, 2}, {0, 2, 1, A, 0}, {A | C, 2 | 1, 0, 0, 0}};
        for (int[] row : due) {
            for (int what = 0; what < 3; what++) {
                String call = "need(0, 5, " + row[0] + ", " + row[1] + ", " + what + ")";
                same(call, office.need(0, 5, row[0], row[1], what), row[2 + what]);
                same("in year 4", office.need(0, 4, row[0], row[1], what), -2);
            }
        }
    }

    private static void futures() {
        CHECKS.sentence("from a YEAR y on, with some DEAD and some that have been read (the others are KEPT):"
                + " in each YEAR at most one more PERSON is DEAD, then there is a LOOK (no DATES, fees, FLOODS).");
        AfterOffice office = office(THREE + "letter l a c 0 0 0 if dead a and dead b; letter m a c 0 0 0 if read l and year < 50;"
                + "letter o b a 0 0 0 if not dead b; fee = 999;");
        office.flood(0, 0);
        office.date(0, 0, 59);
        same("two years for two deaths", office.future(0, 10, 0, 0, 0), 11);
        same("at any time", office.future(0, 10, 0, 0, 1), 59);
        same("one is dead already", office.future(0, 10, A, 0, 0), 10);
        same("the reader is dead", office.future(0, 10, C, 0, 0), -2);
        same("m behind l", office.future(1, 10, 0, 0, 0), 11);
        same("till year 49", office.future(1, 10, 0, 0, 1), 49);
        same("l has been read", office.future(1, 10, 0, 1, 0), 10);
        same("and m cannot wait", office.future(1, 10, 0, 1, 1), 10);
        same("o at once", office.future(2, 10, 0, 0, 0), 10);
        same("or never", office.future(2, 10, 0, 0, 1), 10);
        CHECKS.sentence("SURE: it is OPENED in each FUTURE till YEAR 59.");
        same("unless a dies first", office.future(2, 10, 0, 0, 2), 0);
    }

    private static void livesAndOdds() {
        CHECKS.sentence("LIVES: of 100 to the n ways (n 0 .. 8) those by which a PERSON who lives in YEAR y lives n YEARS later:");
        AfterOffice office = office("person a 30; person b 40; letter l a b 0 0 0 if dead a; letter m a a 0 0 0 if read l; dies = age;");
        same("no years", office.lives(0, 20, 0), 1);
        same("one", office.lives(0, 20, 1), 50);
        same("two", office.lives(0, 20, 2), 50 * 49);
        same("eight", office.lives(1, 0, 8), 60L * 59 * 58 * 57 * 56 * 55 * 54 * 53);
        CHECKS.sentence("of all ways (100 for each PERSON in each of the n YEARS 1, 2 from y on, whether he is DEAD or not)"
                + " those by which it is OPENED: in each YEAR each PERSON who lives dies by DIES of 100 and is DEAD at once,"
                + " then there is a LOOK; at first all live and are not DEAD, all LETTERS are KEPT, no DATES, fees, FLOODS.");
        same("a dies, b does not", office.odds(0, 0, 1), 30 * 60);
        long firstYear = 30 * 60 * 10000;
        long bothLive = 70 * 60 * (31L * 59);
        same("or a in the second year, and b in neither", office.odds(0, 0, 2), firstYear + bothLive);
        same("a must live to read m, and be dead for l", office.odds(1, 0, 2), 0);
    }

    /* All die in year 10 by a rule that leaves nothing to lots; only years and clerks decide. */
    private static void livesWithoutLuck() {
        CHECKS.sentence("A LIFE by LOTS of a SEED, w of 100 FLOODS: in each YEAR from 0 on each PERSON who lives dies (DEAD at once)"
                + " if LOT 100 of which 100 * YEAR + PERSON is below DIES; each SHELF is flooded if LOT 100 of which"
                + " 100 * YEAR + 50 + SHELF is below w; then fees and a LOOK as in THE RUN.");
        AfterOffice office = office(THREE + "clerk x; clerk y; barred y b; dies = year/10*100; fee = 1 + shelf;"
                + "letter l a b 0 9 0 if 5 <= year; letter m a b 1 9 0 if read l; letter o b a 2 7 0 if dead b; letter p c a 3 0 0 if year == 7;");
        same("l and m in year 6 by clerk x, p in year 7 by clerk y", office.life(5, 0, 0), 1 | 2 | 8);
        same("o lapses, as 7 are not enough for three years", office.life(5, 0, 2), 4);
        same("fees of 1 and 2 for 7 years, 4 for 8, 3 for 10, and the 7", office.life(5, 0, 4), 7 * 3 + 8 * 4 + 10 * 3 + 7);
        same("nobody lives", office.life(5, 0, 3), 0);
        same("by any seed", office.chance(1, -25, 50, 0), 50);
    }

    private static void lots() {
        CHECKS.sentence("A LIFE by LOTS: what 0 LETTERS that are OPENED, 1 those LOST, 2 those LAPSED, 3 PEOPLE who live at the"
                + " end (bits each), 4 the sum of fees;");
        AfterOffice none = office(THREE + "letter l a b 0 99 0 if 3 <= year; letter m a b 1 99 0 if dead a;");
        int[] nobodyDies = {1, 0, 0, 7, 4 + 60};
        int[] allFloods = {0, 3, 0, 7, 0};
        for (int what = 0; what < 5; what++) {
            same("without deaths or floods, " + what, none.life(77, 0, what), nobodyDies[what]);
            same("all flooded at once, " + what, none.life(77, 100, what), allFloods[what]);
        }
        AfterOffice all = office(THREE + "letter l a b 0 3 0 if dead a; letter m a b 1 2 0 if dead a; dies = 100; fee = 1;");
        int[] allDie = {0, 0, 3, 0, 5};
        for (int what = 0; what < 5; what++) {
            same("all dead at once, " + what, all.life(-77, 0, what), allDie[what]);
        }
        CHECKS.sentence("LOT n of a SEED and a which: h is the SEED; for each of 18, which: h becomes (h and it, each bit of which"
                + " is in just one) times 1103515245 and 12345 more, then h and h moved 15 bits down (zeros come in), likewise;"
                + " the rest of h, moved 1 bit down likewise, by n (32 bits that wrap).");
        for (int seed : new int[] {0, 1, -1, 123456789, Integer.MIN_VALUE, Integer.MAX_VALUE}) {
            lotsOf(seed);
        }
    }

    /* Person a dies in the first year whose lot is below 5; what he pays till then tells the year. */
    private static void lotsOf(int seed) {
        AfterOffice office = office("person a 0; letter l a a 0 0 0 if 1 == 2; dies = 5; fee = 1;");
        int years = 0;
        while (years < 60 && lot(seed, 100 * years, 100) >= 5) {
            years++;
        }
        same("years that a pays in, seed " + seed, office.life(seed, 0, 4), years);
        same("the letter lapses", office.life(seed, 0, 2), years < 60 ? 1 : 0);
        years = 0;
        while (years < 60 && lot(seed, 100 * years + 50, 100) >= 7) {
            years++;
        }
        AfterOffice wet = office("person a 0; letter l a a 0 0 0 if 1 == 2; fee = 1;");
        same("years till shelf 0 is flooded, seed " + seed, wet.life(seed, 7, 4), years);
        same("the letter is lost", wet.life(seed, 7, 1), years < 60 ? 1 : 0);
    }

    /* With longs, so that nothing wraps by itself. */
    private static long lot(int seed, int which, int n) {
        long h = seed & 0xffffffffL;
        for (long it : new long[] {18, which}) {
            h = ((h ^ it) * 1103515245L + 12345) & 0xffffffffL;
            h = h ^ h / 32768;
        }
        return h / 2 % n;
    }

    private static void wrongAndCounts() {
        CHECKS.sentence("People (bits) who are DEAD to the office at the end of a YEAR and did not die by then (what 0),"
                + " who died by then and are not DEAD (1);");
        AfterOffice office = office(THREE + "clerk x; clerk y; barred x a; barred x b; barred y c; letter l a b 0 0 0; proof 7;");
        office.rumour(3, 0, 7);
        office.death(5, 0);
        office.death(4, 1);
        office.rumour(6, 2, 6);
        int[] taken = {0, 0, 0, A, A, 0, 0};
        int[] unknown = {0, 0, 0, 0, B, B, B};
        for (int year = 0; year < 7; year++) {
            same("wrong(" + year + ", 4, 0)", office.wrong(year, 4, 0), taken[year]);
            same("wrong(" + year + ", 4, 1)", office.wrong(year, 4, 1), unknown[year]);
        }
        CHECKS.sentence("0 PEOPLE, 1 CLERKS, 2 LETTERS, 3 BARRED, 4 PROOF, 5 FACTS, 6 bytes on the tape, 7 SLOTS that hold something.");
        office.hold(2);
        office.feed(0, 0, 0, 0, 0);
        int[] due = {3, 2, 1, 3, 7, 4, 20, 1};
        for (int what = 0; what < due.length; what++) {
            same("count(" + what + ")", office.count(what), due[what]);
        }
    }

    private static void states() {
        CHECKS.sentence("Of a LETTER in THE RUN: what 0: 0 KEPT at the end, 1 OPENED, 2 OPENED EARLY, 3 TAKEN BACK, 4 LOST,"
                + " 5 LAPSED, 1 the YEAR of that (KEPT: -2), 2 what is left of what was LAID IN.");
        AfterOffice office = office(THREE + "letter l a b 0 40 0 if dead c; letter m a b 0 50 0 if 9 <= year;"
                + "letter o a b 0 60 0 if dead c; letter p b a 1 70 0 if dead c; letter q b a 2 80 0 if dead c;"
                + "letter r c a 0 7 0 if 1 == 2; fee = 3;");
        office.early(11, 2);
        office.takeBack(12, 3);
        office.flood(13, 2);
        office.rumour(14, 2, 10);
        office.rumour(1, 0, 10);
        office.annul(4);
        office.rumour(5, 0, 10);
        int[][] due = {{1, 14, 40 - 10 * 3}, {1, 9, 50 - 5 * 3}, {2, 11, 60 - 6 * 3}, {3, 12, 70}, {4, 13, 80}, {5, 16, 0}};
        for (int letter = 0; letter < 6; letter++) {
            for (int what = 0; what < 3; what++) {
                same("run(" + letter + ", 7, 1, " + what + ")", office.run(letter, 7, 1, what), due[letter][what]);
            }
        }
        ran(office, 0, 3, 1, 0, -2);
        same("all is left", office.run(0, 3, 1, 2), 40);
    }

    public static void main(String[] args) {
        calls();
        tells();
        conditions();
        literals();
        expressions();
        whatIsTold();
        whoMustBeTold();
        kindsOfFacts();
        factsOfYears();
        whatFactsDo();
        deathsAreNotKnown();
        whatIsKnown();
        factsByNumbers();
        feesOfWhatIsKept();
        looksOfYears();
        byTruth();
        lateness();
        gains();
        incomeAndNext();
        asking();
        needs();
        futures();
        livesAndOdds();
        livesWithoutLuck();
        lots();
        states();
        wrongAndCounts();
        CHECKS.end();
    }
}
