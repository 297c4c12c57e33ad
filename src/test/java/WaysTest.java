/** Promises 32 to 41: needs, rings, futures, odds and lots. */
public final class WaysTest {
    private static final Checks CHECKS = new Checks("WaysTest");

    private static void need(AfterOffice office, int[] call, int... due) {
        for (int what = 0; what < 3; what++) {
            String name = "need(" + call[0] + ", " + call[1] + ", " + call[2] + ", " + call[3] + ", " + what + ")";
            CHECKS.same(name, office.need(call[0], call[1], call[2], call[3], what), due[due.length == 1 ? 0 : what]);
        }
    }

    private static void needs() {
        AfterOffice office = CHECKS.office("person a 1; person b 1; person c 1;"
                + "letter l a b 0 0 0 if dead a and dead b or read m and read n;"
                + "letter m a b 0 0 0 if not dead a; letter n a b 0 0 0 if 5<=year and dead c or dead b;"
                + "letter o a b 0 0 0 if dead a and dead b and dead c and read o;"
                + "letter p a b 0 0 0 if dead a and dead c and read o or dead b and read l and read m;"
                + "letter q a b 0 0 0 if read q; letter r a b 0 0 0;");
        need(office, new int[] {0, 0, 0, 0}, 2, 0, 6);
        need(office, new int[] {0, 0, 0, 2}, 1, 0, 4);
        need(office, new int[] {0, 0, 1, 0}, 1, 2, 0);
        need(office, new int[] {0, 0, 1, 2}, 1, 0, 4);
        need(office, new int[] {0, 0, 3, 0}, 0, 0, 0);
        need(office, new int[] {1, 0, 0, 0}, 0, 0, 0);
        need(office, new int[] {1, 0, 1, 0}, -2);
        need(office, new int[] {2, 0, 0, 0}, 1, 2, 0);
        need(office, new int[] {2, 4, 0, 0}, 1, 2, 0);
        need(office, new int[] {2, 5, 0, 0}, 1, 2, 0);
        need(office, new int[] {2, 5, 4, 0}, 0, 0, 0);
        need(office, new int[] {3, 0, 0, 0}, -2);
        need(office, new int[] {3, 0, 4, 0}, 3, 3, 8);
        need(office, new int[] {4, 0, 0, 0}, 3, 2, 3);
        need(office, new int[] {4, 0, 0, 8}, 2, 5, 0);
        need(office, new int[] {5, 0, 0, 0}, 1, 0, 32);
        need(office, new int[] {5, 0, 0, 32}, 0, 0, 0);
        need(office, new int[] {6, 59, 7, 127}, 0, 0, 0);
        int[][] noSuch = {{7, 0, 0, 0}, {-1, 0, 0, 0}, {0, 60, 0, 0}, {0, -1, 0, 0}, {0, 0, 8, 0}, {0, 0, -1, 0},
            {0, 0, 0, 128}, {0, 0, 0, -1}, {0, 0, Integer.MIN_VALUE, 0}, {0, 0, 0, Integer.MAX_VALUE}};
        for (int[] call : noSuch) {
            need(office, call, -1);
        }
        CHECKS.none("need what 3", office.need(0, 0, 0, 0, 3));
        CHECKS.none("need what -1", office.need(0, 0, 0, 0, -1));
        CHECKS.none("need what 3 of more than 3", office.need(3, 0, 0, 0, 3));
    }

    private static void leastNeeds() {
        AfterOffice office = CHECKS.office("person a 1; person b 1; person c 1; person d 1;"
                + "letter l a b 0 0 0 if dead c and dead d or dead b and dead c or dead a and dead d;"
                + "letter m a b 0 0 0 if dead d and read m or dead d and read l or dead c and read m;"
                + "letter n a b 0 0 0 if dead d and dead a or dead d and read n;");
        need(office, new int[] {0, 0, 0, 0}, 2, 6, 0);
        need(office, new int[] {1, 0, 0, 0}, 2, 4, 2);
        need(office, new int[] {1, 0, 0, 1}, 1, 8, 0);
        need(office, new int[] {2, 0, 0, 0}, 2, 8, 4);
    }

    private static void rings() {
        AfterOffice office = CHECKS.office("person a 1; letter l a a 0 0 0 if read m or not read n and 1/0==0;"
                + "letter m a a 0 0 0 if read l; letter n a a 0 0 0 if not not read n; letter o a a 0 0 0 if read l;"
                + "letter p a a 0 0 0 if read q; letter q a a 0 0 0 if read r; letter r a a 0 0 0 if read p or read q;");
        int[] asks = {6, 1, 4, 1, 32, 64, 48};
        int[] ring = {3, 3, 4, 0, 112, 112, 112};
        for (int i = 0; i < 7; i++) {
            CHECKS.same("asks(" + i + ")", office.asks(i), asks[i]);
            CHECKS.same("ring(" + i + ")", office.ring(i), ring[i]);
        }
        CHECKS.same("rings()", office.rings(), 3);
        CHECKS.same("burn()", office.burn(), 1 | 4 | 32);
        CHECKS.none("asks(7)", office.asks(7));
        CHECKS.none("asks(-1)", office.asks(-1));
        CHECKS.none("ring(7)", office.ring(7));
        CHECKS.none("ring(-1)", office.ring(-1));
        AfterOffice all = CHECKS.office("person a 1; letter l a a 0 0 0 if read l; letter m a a 0 0 0 if read m;");
        CHECKS.same("rings() of two that ask for themselves", all.rings(), 2);
        CHECKS.same("burn() of two that ask for themselves", all.burn(), 3);
        AfterOffice none = CHECKS.office("person a 1; letter l a a 0 0 0 if read m; letter m a a 0 0 0;");
        CHECKS.same("rings() of a chain", none.rings(), 0);
        CHECKS.same("burn() of a chain", none.burn(), 0);
        AfterOffice pair = CHECKS.office("person a 1; letter l a a 0 0 0 if read m; letter m a a 0 0 0 if read l and read m;");
        CHECKS.same("rings() of a ring with one that asks for itself", pair.rings(), 1);
        CHECKS.same("burn() of it", pair.burn(), 2);
    }

    private static void future(AfterOffice office, int[] call, int... due) {
        for (int what = 0; what < 3; what++) {
            String name = "future(" + call[0] + ", " + call[1] + ", " + call[2] + ", " + call[3] + ", " + what + ")";
            CHECKS.same(name, office.future(call[0], call[1], call[2], call[3], what), due[due.length == 1 ? 0 : what]);
        }
    }

    private static void futures() {
        AfterOffice office = CHECKS.office("person a 1; person b 1; person c 1; clerk x; clerk y; barred y c;"
                + "letter l a b 0 0 0 if dead a; letter m a b 0 0 0 if 10<=year; letter n a c 0 0 0 if dead a and dead b;"
                + "letter o a c 0 0 0 if not read m and 20<=year; letter p a a 0 0 0 if year<5 and dead b;");
        future(office, new int[] {0, 0, 0, 0}, 0, 59, 0);
        future(office, new int[] {0, 30, 0, 0}, 30, 59, 0);
        future(office, new int[] {0, 30, 1, 0}, 30, 30, 0);
        future(office, new int[] {0, 0, 2, 0}, -2, -2, 0);
        future(office, new int[] {1, 0, 0, 0}, 10, 10, 0);
        future(office, new int[] {1, 15, 0, 0}, 15, 15, 0);
        // Two deaths take two years, and its clerk may open in even years alone.
        future(office, new int[] {2, 0, 0, 0}, 2, 58, 0);
        future(office, new int[] {2, 2, 0, 0}, 4, 58, 0);
        future(office, new int[] {2, 1, 0, 0}, 2, 58, 0);
        future(office, new int[] {2, 58, 0, 0}, -2, -2, 0);
        future(office, new int[] {2, 58, 1, 0}, 58, 58, 0);
        future(office, new int[] {2, 59, 3, 0}, -2, -2, 0);
        // The reader of m must be dead ahead of year 10, or m is read.
        future(office, new int[] {3, 0, 0, 0}, 20, 20, 0);
        future(office, new int[] {3, 10, 0, 0}, 20, 20, 0);
        future(office, new int[] {3, 11, 0, 0}, 20, 20, 0);
        future(office, new int[] {3, 0, 0, 2}, -2, -2, 0);
        future(office, new int[] {3, 21, 2, 0}, 22, 22, 0);
        future(office, new int[] {4, 0, 0, 0}, 0, 4, 0);
        future(office, new int[] {4, 5, 0, 0}, -2, -2, 0);
        int[][] noSuch = {{5, 0, 0, 0}, {-1, 0, 0, 0}, {0, 60, 0, 0}, {0, -1, 0, 0}, {0, 0, 8, 0}, {0, 0, -1, 0},
            {0, 0, 0, 32}, {0, 0, 0, -1}, {0, 0, 0, 1}, {4, 0, 0, 31}};
        for (int[] call : noSuch) {
            future(office, call, -1);
        }
        CHECKS.none("future what 3", office.future(0, 0, 0, 0, 3));
        CHECKS.none("future what -1", office.future(0, 0, 0, 0, -1));
        // The same are dead by two ways, of which one has let l be read.
        AfterOffice ways = CHECKS.office("person a 1; person b 1; person c 1; letter l a c 0 0 0 if dead a and not dead b;"
                + "letter m a c 0 0 0 if dead a and dead b and read l;"
                + "letter n a c 0 0 0 if dead a and dead b and not read l;");
        future(ways, new int[] {1, 0, 0, 0}, 1, 59, 0);
        future(ways, new int[] {2, 0, 0, 0}, 1, 59, 0);
        future(ways, new int[] {2, 59, 0, 0}, -2, -2, 0);
        String five = "person a 1; person b 1; person c 1; person d 1; person e 1; letter l a a 0 0 0 if dead e;";
        future(CHECKS.office(five), new int[] {0, 0, 0, 0}, 0, 59, 0);
        AfterOffice six = CHECKS.office("person f 1;" + five);
        future(six, new int[] {0, 0, 0, 0}, -2);
        future(six, new int[] {0, 0, 0, 1}, -1);
        CHECKS.none("future what 3 of too many", six.future(0, 0, 0, 0, 3));
        StringBuilder letters = new StringBuilder("person z 1;");
        for (char name = 'a'; name < 'g'; name++) {
            letters.append("letter ").append(name).append(" z z 0 0 0;");
        }
        future(CHECKS.office(letters.toString()), new int[] {5, 7, 0, 31}, 7, 7, 0);
        future(CHECKS.office(letters + "letter g z z 0 0 0;"), new int[] {5, 7, 0, 31}, -2);
    }

    private static void lives() {
        AfterOffice office = CHECKS.office("person a 1; person b 1; dies=10+year/59*90;");
        CHECKS.same("lives(0, 0, 0)", office.lives(0, 0, 0), 1);
        CHECKS.same("lives(0, 0, 1)", office.lives(0, 0, 1), 90);
        CHECKS.same("lives(1, 7, 2)", office.lives(1, 7, 2), 8100);
        CHECKS.same("lives(0, 51, 8)", office.lives(0, 51, 8), 4304672100000000L);
        CHECKS.same("lives(0, 52, 8)", office.lives(0, 52, 8), 0);
        CHECKS.same("lives(0, 59, 0)", office.lives(0, 59, 0), 1);
        CHECKS.same("lives(0, 59, 1)", office.lives(0, 59, 1), 0);
        CHECKS.none("lives(0, 53, 8)", office.lives(0, 53, 8));
        CHECKS.none("lives(0, 59, 2)", office.lives(0, 59, 2));
        CHECKS.none("lives(0, 60, 0)", office.lives(0, 60, 0));
        CHECKS.none("lives(0, -1, 1)", office.lives(0, -1, 1));
        CHECKS.none("lives(0, 0, 9)", office.lives(0, 0, 9));
        CHECKS.none("lives(0, 0, -1)", office.lives(0, 0, -1));
        CHECKS.none("lives(2, 0, 1)", office.lives(2, 0, 1));
        CHECKS.none("lives(-1, 0, 1)", office.lives(-1, 0, 1));
        CHECKS.none("lives(0, most, most)", office.lives(0, Integer.MAX_VALUE, Integer.MAX_VALUE));
        AfterOffice safe = CHECKS.office("person a 1;");
        CHECKS.same("lives of who never dies", safe.lives(0, 0, 8), 10000000000000000L);
    }

    private static void odds() {
        AfterOffice office = CHECKS.office("person a 1; person b 1; letter l a b 0 0 0 if dead a; dies=10;");
        CHECKS.same("odds(0, 0, 1)", office.odds(0, 0, 1), 900);
        CHECKS.same("odds(0, 0, 2)", office.odds(0, 0, 2), 16290000);
        CHECKS.same("odds(0, 59, 1)", office.odds(0, 59, 1), 900);
        CHECKS.same("odds(0, 58, 2)", office.odds(0, 58, 2), 16290000);
        CHECKS.none("odds(0, 59, 2)", office.odds(0, 59, 2));
        CHECKS.none("odds(0, 60, 1)", office.odds(0, 60, 1));
        CHECKS.none("odds(0, -1, 1)", office.odds(0, -1, 1));
        CHECKS.none("odds(0, 0, 0)", office.odds(0, 0, 0));
        CHECKS.none("odds(0, 0, 3)", office.odds(0, 0, 3));
        CHECKS.none("odds(1, 0, 1)", office.odds(1, 0, 1));
        CHECKS.none("odds(-1, 0, 1)", office.odds(-1, 0, 1));
        // Only in year 1 may the clerk open; the reader lives through both years by 90 * 90 of 10000 ways.
        AfterOffice clerks = CHECKS.office("person a 1; person b 1; clerk x; clerk y; barred x b; letter l a b 0 0 0; dies=10;");
        CHECKS.same("odds of a barred year", clerks.odds(0, 0, 1), 0);
        CHECKS.same("odds behind a barred year", clerks.odds(0, 0, 2), 81000000);
        CHECKS.same("odds of a free year", clerks.odds(0, 1, 1), 9000);
        AfterOffice frail = CHECKS.office("person a 1; letter l a a 0 0 0; letter m a a 0 0 0 if 1<=year; dies=99;");
        CHECKS.same("odds of one way of 100", frail.odds(0, 0, 1), 1);
        CHECKS.same("odds of one way of 100, then any", frail.odds(0, 0, 2), 100);
        CHECKS.same("odds of one way of 10000", frail.odds(1, 0, 2), 1);
        AfterOffice never = CHECKS.office("person a 1; person b 1; person c 1; person d 1; letter l a b 0 0 0;");
        CHECKS.same("odds of four who never die", never.odds(0, 0, 2), 10000000000000000L);
        AfterOffice five = CHECKS.office("person a 1; person b 1; person c 1; person d 1; person e 1; letter l a b 0 0 0;");
        CHECKS.same("odds of five", five.odds(0, 0, 1), -2);
        CHECKS.none("odds of five, no letter", five.odds(1, 0, 1));
        CHECKS.none("odds of five, no year", five.odds(0, 59, 2));
    }

    private static void lots() {
        AfterOffice office = CHECKS.office("person a 0; person b 0; letter l a b 1 20 0 if dead a; dies=3;");
        // Reckoned out by another program, in another language.
        int[][] due = {{0, 1, 0, 0, 1, 0, 21}, {1, 1, 1, 0, 0, 0, 7}, {2, 1, 1, 0, 0, 0, 17}, {5, 1, 1, 0, 0, 0, 9},
            {-1, 1, 0, 1, 0, 0, 0}, {-1, 0, 1, 0, 0, 0, 11}, {Integer.MIN_VALUE, 1, 0, 0, 0, 0, 60},
            {Integer.MAX_VALUE, 0, 1, 0, 0, 0, 7}, {12345, 1, 1, 0, 0, 0, 4}};
        for (int[] row : due) {
            for (int what = 0; what < 5; what++) {
                String call = "life(" + row[0] + ", " + row[1] + ", " + what + ")";
                CHECKS.same(call, office.life(row[0], row[1], what), row[2 + what]);
            }
        }
        CHECKS.same("chance over the end of seeds", office.chance(0, 2147483640, 50, 1), 23);
        CHECKS.same("chance of one", office.chance(0, 1, 1, 1), 1);
        CHECKS.same("chance of another one", office.chance(0, 0, 1, 1), 0);
        CHECKS.same("chance of three", office.chance(0, 0, 3, 1), 2);
        CHECKS.same("chance of floods each year", office.chance(0, 0, 50, 100), 0);
        CHECKS.none("life of w 101", office.life(0, 101, 0));
        CHECKS.none("life of w -1", office.life(0, -1, 0));
        CHECKS.none("life what 5", office.life(0, 0, 5));
        CHECKS.none("life what -1", office.life(0, 0, -1));
        CHECKS.none("chance of no letter", office.chance(1, 0, 1, 0));
        CHECKS.none("chance of letter -1", office.chance(-1, 0, 1, 0));
        CHECKS.none("chance of 0 seeds", office.chance(0, 0, 0, 0));
        CHECKS.none("chance of 51 seeds", office.chance(0, 0, 51, 0));
        CHECKS.none("chance of w 101", office.chance(0, 0, 1, 101));
        CHECKS.none("chance of w -1", office.chance(0, 0, 1, -1));
        surelyLived();
    }

    private static void surelyLived() {
        AfterOffice die = CHECKS.office("person a 0; person b 0; letter l a b 1 5 0; letter m a b 0 999 0; dies=100;");
        int[] lapsed = {0, 0, 1, 0, 65};
        int[] lost = {0, 3, 0, 0, 0};
        AfterOffice live = CHECKS.office("person a 0; person b 0; letter l a b 1 5 0; letter m a b 0 0 0 if 3<=year; fee=2;");
        int[] opened = {3, 0, 0, 3, 10};
        for (int what = 0; what < 5; what++) {
            CHECKS.same("all die, " + what, die.life(77, 0, what), lapsed[what]);
            CHECKS.same("all is flooded, " + what, die.life(77, 100, what), lost[what]);
            CHECKS.same("none die, " + what, live.life(77, 0, what), opened[what]);
        }
        live.flood(0, 0);
        live.date(0, 0, 40);
        live.rumour(0, 1, 20);
        CHECKS.same("facts do not matter for lots", live.life(77, 0, 0), 3);
    }

    public static void main(String[] args) {
        needs();
        leastNeeds();
        rings();
        futures();
        lives();
        odds();
        lots();
        CHECKS.end();
    }
}
