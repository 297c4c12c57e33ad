/** Part III of the terms, promises 32 to 41: each bound on both its sides. */
public final class WaysBoundsTest {
    private static final Checks CHECKS = new Checks("WaysBoundsTest");
    private static final Bounds USUAL = new Bounds(CHECKS, Bounds::usual);
    private static final int MOST = Integer.MAX_VALUE;
    private static final int LEAST = Integer.MIN_VALUE;

    /* People pa, pb, .. */
    private static String people(int many) {
        StringBuilder text = new StringBuilder();
        for (int i = 0; i < many; i++) {
            text.append("person p").append((char) ('a' + i)).append(" 1;");
        }
        return text.toString();
    }

    /* Letters la, lb, .. from pa to pa; in a condition '#' is the next one's name, the first one's behind the last. */
    private static String letters(int many, String condition) {
        StringBuilder text = new StringBuilder();
        for (int i = 0; i < many; i++) {
            String following = "l" + (char) ('a' + (i + 1) % many);
            text.append("letter l").append((char) ('a' + i)).append(" pa pa 0 0 0");
            text.append(condition.replace("#", following)).append(';');
        }
        return text.toString();
    }

    private static void needArguments() {
        CHECKS.sentence("NEED: what 0 how many, 1 the DEAD (bits), 2 what was read (bits); -2: more than 3; NONE: no such ones.");
        USUAL.edges("need(x, 0, 0, 0, 0)", 0, 1, 1, 1, (office, x) -> office.need(x, 0, 0, 0, 0));
        USUAL.edges("need(0, x, 0, 0, 0)", 0, 1, 59, 1, (office, x) -> office.need(0, x, 0, 0, 0));
        USUAL.edges("need(0, 0, x, 0, 0)", 0, 1, 7, 0, (office, x) -> office.need(0, 0, x, 0, 0));
        USUAL.edges("need(1, 0, 0, x, 0)", 0, 1, 3, 0, (office, x) -> office.need(1, 0, 0, x, 0));
        USUAL.edges("need(0, 0, 0, 0, x)", 0, 1, 2, 0, (office, x) -> office.need(0, 0, 0, 0, x));
        USUAL.edges("need(1, 0, 0, 0, x)", 0, 1, 2, 1, (office, x) -> office.need(1, 0, 0, 0, x));
        Bounds ten = new Bounds(CHECKS, Bounds.of(people(10) + letters(10, " if dead pj or read lj and read #")));
        ten.edges("need(x, 0, 0, 0, 0) of ten", 0, 1, 9, 1, (office, x) -> office.need(x, 0, 0, 0, 0));
        ten.edges("need(0, 0, x, 0, 1) of ten", 0, 512, 1023, 0, (office, x) -> office.need(0, 0, x, 0, 1));
        ten.edges("need(0, 0, 0, x, 1) of ten", 0, 512, 1023, 0, (office, x) -> office.need(0, 0, 0, x, 1));
        ten.refuses("need(0, 0, 0, 0, 3), what is not", office -> office.need(0, 0, 0, 0, 3));
        Bounds never = new Bounds(CHECKS, Bounds.of(people(1) + letters(1, " if 1<0")));
        never.answers("need of what never holds", -2, office -> office.need(0, 0, 0, 0, 0));
        never.edges("need(0, 0, 0, 0, x) of what never holds", 0, -2, 2, -2, (office, x) -> office.need(0, 0, 0, 0, x));
        never.edges("need(0, x, 0, 0, 0) of what never holds", 0, -2, 59, -2, (office, x) -> office.need(0, x, 0, 0, 0));
        never.edges("need(0, 0, x, 0, 0) of what never holds", 0, -2, 1, -2, (office, x) -> office.need(0, 0, x, 0, 0));
    }

    private static void need(AfterOffice office, int dead, int been, int... due) {
        for (int what = 0; what < 3; what++) {
            String call = "need(0, 0, " + dead + ", " + been + ", " + what + ")";
            CHECKS.same(call, office.need(0, 0, dead, been, what), due[due.length == 1 ? 0 : what]);
        }
    }

    /* Ten people and ten letters, of which the first one has a condition. */
    private static AfterOffice wanting(String condition) {
        return CHECKS.office(people(10) + letters(10, "").replaceFirst(";", " if " + condition + ";"));
    }

    private static void threeAtMost() {
        CHECKS.sentence("the fewest more of both together (3 at most) with whom its COND would hold");
        need(wanting("dead pa and dead pb and dead pj"), 0, 0, 3, 515, 0);
        need(wanting("dead pa and dead pb and dead pc and dead pj"), 0, 0, -2);
        need(wanting("dead pa and dead pb and dead pc and dead pj"), 512, 0, 3, 7, 0);
        need(wanting("read la and read lb and read lj"), 0, 0, 3, 0, 515);
        need(wanting("read la and read lb and read lc and read lj"), 0, 0, -2);
        need(wanting("read la and read lb and read lc and read lj"), 0, 512, 3, 0, 7);
        need(wanting("dead pa and dead pj and read lj"), 0, 0, 3, 513, 512);
        need(wanting("dead pj and read la and read lj"), 0, 0, 3, 512, 513);
        need(wanting("dead pa and dead pj and read la and read lj"), 0, 0, -2);
        need(wanting("dead pa and dead pj and read la and read lj"), 1, 512, 2, 512, 1);
        need(wanting("dead pa and dead pj and read la and read lj"), 1023, 1023, 0, 0, 0);
        need(wanting("dead pa"), 0, 0, 1, 1, 0);
        need(wanting("1<2"), 0, 0, 0, 0, 0);
        need(wanting("not dead pa"), 1, 0, -2);
        need(wanting("not read la"), 0, 1, -2);
        need(wanting("dead pa and not dead pa"), 0, 0, -2);
    }

    private static void ofAlikeNeeds() {
        CHECKS.sentence("of alike ones the fewest DEAD, then the least bits of DEAD, then of read ones");
        need(wanting("dead pa or read lj"), 0, 0, 1, 0, 512);
        need(wanting("dead pj or dead pi"), 0, 0, 1, 256, 0);
        need(wanting("read lj or read li"), 0, 0, 1, 0, 256);
        need(wanting("dead pa and dead pj or dead pi and dead ph"), 0, 0, 2, 384, 0);
        need(wanting("read la and read lj or read li and read lh"), 0, 0, 2, 0, 384);
        need(wanting("dead pa and read lj or dead pb and read la"), 0, 0, 2, 1, 512);
        need(wanting("dead pa and dead pb or dead pj and read lj"), 0, 0, 2, 512, 512);
        need(wanting("dead pa and dead pb and dead pc or dead pj and read li and read lj"), 0, 0, 3, 512, 768);
        need(wanting("dead pa and dead pb and dead pj or dead ph and dead pi and dead pc"), 0, 0, 3, 388, 0);
        need(wanting("dead pa and dead pb and dead pc or dead pj and dead pi"), 0, 0, 2, 768, 0);
    }

    private static void asking() {
        CHECKS.sentence("The LETTERS (bits) for which one ASKS; NONE: no such one.");
        USUAL.edges("asks(x)", 0, 0, 1, 1, AfterOffice::asks);
        Bounds ten = new Bounds(CHECKS, Bounds.of(people(1) + letters(10, " if not read # and not not read lj or read lj")));
        ten.edges("asks(x) of ten", 0, 514, 9, 513, AfterOffice::asks);
        Bounds none = new Bounds(CHECKS, Bounds.of(people(1)));
        none.refuses("asks(0) without letters", office -> office.asks(0));
    }

    private static void rings() {
        CHECKS.sentence("The RING of a LETTER (bits; 0: it is in none); NONE: no such one.");
        USUAL.edges("ring(x)", 0, 0, 1, 0, AfterOffice::ring);
        Bounds around = new Bounds(CHECKS, Bounds.of(people(1) + letters(10, " if read #")));
        around.edges("ring(x) of ten in one", 0, 1023, 9, 1023, AfterOffice::ring);
        Bounds pair = new Bounds(CHECKS, Bounds.of(people(1) + "letter a pa pa 0 0 0 if read b;letter b pa pa 0 0 0 if not read a;"
                + "letter c pa pa 0 0 0 if read a;letter d pa pa 0 0 0;"));
        pair.edges("ring(x) of a pair and others", 0, 3, 3, 0, AfterOffice::ring);
        pair.answers("ring(2), which is asked for by none", 0, office -> office.ring(2));
        Bounds self = new Bounds(CHECKS, Bounds.of(people(1) + "letter a pa pa 0 0 0 if read a;letter b pa pa 0 0 0 if read a;"));
        self.edges("ring(x) of one that asks for itself", 0, 1, 1, 0, AfterOffice::ring);
        Bounds none = new Bounds(CHECKS, Bounds.of(people(1)));
        none.refuses("ring(0) without letters", office -> office.ring(0));
    }

    private static void ringsAndBurn(String text, int rings, int burn) {
        AfterOffice office = CHECKS.office(people(1) + text);
        CHECKS.same("rings() of " + text, office.rings(), rings);
        CHECKS.same("burn() of " + text, office.burn(), burn);
    }

    private static void theFewestToBurn() {
        CHECKS.sentence("BURN: the fewest LETTERS without which there are no RINGS; of alike ones the least (bits).");
        ringsAndBurn("", 0, 0);
        ringsAndBurn("letter a pa pa 0 0 0;", 0, 0);
        ringsAndBurn("letter a pa pa 0 0 0 if read a;", 1, 1);
        ringsAndBurn(letters(10, ""), 0, 0);
        ringsAndBurn(letters(10, " if read #"), 1, 1);
        ringsAndBurn(letters(9, " if read #") + "letter lj pa pa 0 0 0 if read lj;", 2, 513);
        ringsAndBurn(letters(10, " if read la"), 1, 1);
        ringsAndBurn(letters(10, " if read lj"), 1, 512);
        ringsAndBurn(letters(2, " if read la and read lb"), 1, 3);
        StringBuilder each = new StringBuilder();
        StringBuilder all = new StringBuilder();
        for (char name = 'a'; name < 'k'; name++) {
            each.append("letter l").append(name).append(" pa pa 0 0 0 if read l").append(name).append(';');
            all.append("letter l").append(name).append(" pa pa 0 0 0 if read la");
            for (char other = 'b'; other < 'k'; other++) {
                all.append(" or read l").append(other);
            }
            all.append(';');
        }
        ringsAndBurn(each.toString(), 10, 1023);
        ringsAndBurn(all.toString(), 1, 1023);
        ringsAndBurn("letter a pa pa 0 0 0 if read b;letter b pa pa 0 0 0 if read a;letter c pa pa 0 0 0 if read d;"
                + "letter d pa pa 0 0 0 if read c;", 2, 5);
    }

    private static void futureArguments() {
        CHECKS.sentence("FUTURES of a LETTER: what 0 FIRST, 1 LAST (-2: none), 2: 1 if SURE, else 0; -2: too many PEOPLE, LETTERS; NONE: no such ones, it has been read.");
        USUAL.edges("future(x, 0, 0, 0, 0)", 0, 0, 1, 0, (office, x) -> office.future(x, 0, 0, 0, 0));
        USUAL.edges("future(1, x, 0, 1, 0)", 0, 0, 59, 59, (office, x) -> office.future(1, x, 0, 1, 0));
        USUAL.edges("future(1, 7, x, 1, 0)", 0, 7, 7, -2, (office, x) -> office.future(1, 7, x, 1, 0));
        USUAL.edges("future(1, 7, 0, x, 0)", 0, 8, 1, 7, (office, x) -> office.future(1, 7, 0, x, 0));
        USUAL.edges("future(1, 7, 0, 1, x)", 0, 7, 2, 0, (office, x) -> office.future(1, 7, 0, 1, x));
        USUAL.answers("future(0, 0, 0, 2, 0)", 0, office -> office.future(0, 0, 0, 2, 0));
        USUAL.refuses("future(0, 0, 0, 4, 0), no such letter", office -> office.future(0, 0, 0, 4, 0));
        for (int what = 0; what < 3; what++) {
            int asked = what;
            USUAL.refuses("future(0, 0, 0, 1, " + what + "), it has been read", office -> office.future(0, 0, 0, 1, asked));
            USUAL.refuses("future(1, 0, 0, 3, " + what + "), both have", office -> office.future(1, 0, 0, 3, asked));
        }
    }

    private static void future(String text, int[] call, int first, int last) {
        AfterOffice office = CHECKS.office(text);
        // Never sure: the reader may always die ahead of the first look.
        int[] due = {first, last, 0};
        for (int what = 0; what < 3; what++) {
            String name = "future(" + call[0] + ", " + call[1] + ", " + call[2] + ", " + call[3] + ", " + what + ")";
            CHECKS.same(name + " of " + text, office.future(call[0], call[1], call[2], call[3], what), due[what]);
        }
    }

    private static void tooMany(String text, int letter) {
        Bounds many = new Bounds(CHECKS, Bounds.of(text));
        many.edges("future(" + letter + ", 0, 0, 0, x) of too many", 0, -2, 2, -2,
                (office, x) -> office.future(letter, 0, 0, 0, x));
        many.edges("future(" + letter + ", x, 0, 0, 0) of too many", 0, -2, 59, -2,
                (office, x) -> office.future(letter, x, 0, 0, 0));
        many.refuses("future of too many, it has been read", office -> office.future(letter, 0, 0, 1 << letter, 0));
        many.refuses("future of too many, no such letter", office -> office.future(10, 0, 0, 0, 0));
        many.refuses("future of too many, no such people", office -> office.future(letter, 0, 1024, 0, 0));
        many.refuses("future of too many, no such letters", office -> office.future(letter, 0, 0, 1024, 0));
    }

    private static void fivePeopleAndSixLetters() {
        CHECKS.sentence("FUTURES, of at most 5 PEOPLE and 6 LETTERS");
        future(people(5) + letters(6, ""), new int[] {5, 0, 0, 0}, 0, 0);
        future(people(5) + letters(6, ""), new int[] {5, 59, 30, 31}, 59, 59);
        future(people(5) + letters(6, " if dead pe"), new int[] {5, 0, 0, 0}, 0, 59);
        future(people(1) + letters(1, ""), new int[] {0, 0, 0, 0}, 0, 0);
        tooMany(people(6) + letters(6, ""), 5);
        tooMany(people(6) + letters(1, ""), 0);
        tooMany(people(5) + letters(7, ""), 6);
        tooMany(people(1) + letters(7, ""), 0);
        tooMany(people(10) + letters(10, ""), 9);
    }

    private static void firstAndLast() {
        CHECKS.sentence("FIRST, LAST YEAR in which a LETTER can be OPENED");
        String four = people(5) + "letter a pa pe 0 0 0 if dead pa and dead pb and dead pc and dead pd;";
        future(four, new int[] {0, 0, 0, 0}, 3, 59);
        future(four, new int[] {0, 56, 0, 0}, 59, 59);
        future(four, new int[] {0, 57, 0, 0}, -2, -2);
        future(four, new int[] {0, 57, 1, 0}, 59, 59);
        future(four, new int[] {0, 59, 7, 0}, 59, 59);
        future(four, new int[] {0, 59, 15, 0}, 59, 59);
        future(four, new int[] {0, 59, 3, 0}, -2, -2);
        future(four, new int[] {0, 0, 31, 0}, -2, -2);
        future(four, new int[] {0, 0, 16, 0}, -2, -2);
        String last = people(2) + "letter a pa pb 0 0 0 if 59<=year;";
        future(last, new int[] {0, 0, 0, 0}, 59, 59);
        future(last, new int[] {0, 59, 0, 0}, 59, 59);
        String first = people(2) + "letter a pa pb 0 0 0 if year==0;";
        future(first, new int[] {0, 0, 0, 0}, 0, 0);
        future(first, new int[] {0, 1, 0, 0}, -2, -2);
        String never = people(2) + "letter a pa pb 0 0 0 if 60<=year;";
        future(never, new int[] {0, 0, 0, 0}, -2, -2);
        // The same are dead by two ways; by one of them a was read between.
        String ways = people(3) + "letter a pa pc 0 0 0 if dead pa and not dead pb;"
                + "letter b pa pc 0 0 0 if dead pa and dead pb and read a;"
                + "letter c pa pc 0 0 0 if dead pa and dead pb and not read a;";
        future(ways, new int[] {1, 0, 0, 0}, 1, 59);
        future(ways, new int[] {2, 0, 0, 0}, 1, 59);
        future(ways, new int[] {1, 58, 0, 0}, 59, 59);
        future(ways, new int[] {1, 59, 0, 0}, -2, -2);
        String alive = people(2) + "letter a pa pb 0 0 0 if not dead pa and 9<=year;";
        future(alive, new int[] {0, 0, 0, 0}, 9, 9);
        future(alive, new int[] {0, 0, 1, 0}, -2, -2);
    }

    private static void livesArguments() {
        CHECKS.sentence("LIVES; -1: no such ones, y + n above 60.");
        USUAL.edges("lives(x, 0, 1)", 0, 96, 2, 94, (office, x) -> office.lives(x, 0, 1));
        USUAL.edges("lives(0, x, 1)", 0, 96, 59, 91, (office, x) -> office.lives(0, x, 1));
        USUAL.edges("lives(0, x, 0)", 0, 1, 59, 1, (office, x) -> office.lives(0, x, 0));
        USUAL.edges("lives(0, 0, x)", 0, 1, 8, 7213895789838336L, (office, x) -> office.lives(0, 0, x));
        for (int n = 1; n <= 8; n++) {
            int years = n;
            long due = 1;
            for (int i = 0; i < n; i++) {
                due *= 91;
            }
            USUAL.answers("lives(0, " + (60 - n) + ", " + n + ")", due, office -> office.lives(0, 60 - years, years));
            USUAL.refuses("lives(0, " + (61 - n) + ", " + n + ")", office -> office.lives(0, 61 - years, years));
        }
        USUAL.refuses("lives(0, most, most)", office -> office.lives(0, MOST, MOST));
        USUAL.refuses("lives(0, 59, most)", office -> office.lives(0, 59, MOST));
        Bounds ten = new Bounds(CHECKS, Bounds.of(people(10)));
        ten.edges("lives(x, 52, 8) of ten", 0, 10000000000000000L, 9, 10000000000000000L,
                (office, x) -> office.lives(x, 52, 8));
        Bounds sure = new Bounds(CHECKS, Bounds.of(people(1) + "dies=101;"));
        sure.answers("lives(0, 0, 0) of who dies at once", 1, office -> office.lives(0, 0, 0));
        sure.answers("lives(0, 0, 1) of who dies at once", 0, office -> office.lives(0, 0, 1));
    }

    private static void oddsArguments() {
        CHECKS.sentence("ODDS of a LETTER behind n (1, 2) YEARS; -2: more than 4 PEOPLE; -1: no such ones, y + n above 60.");
        USUAL.edges("odds(x, 0, 1)", 0, 38000, 1, 35720, (office, x) -> office.odds(x, 0, 1));
        USUAL.edges("odds(0, x, 1)", 0, 38000, 59, 0, (office, x) -> office.odds(0, x, 1));
        USUAL.edges("odds(0, x, 2)", 0, 38000000000L, 58, 81000000000L, (office, x) -> office.odds(0, x, 2));
        USUAL.edges("odds(0, 0, x)", 1, 38000, 2, 38000000000L, (office, x) -> office.odds(0, 0, x));
        USUAL.edges("odds(0, 58, x)", 1, 81000, 2, 81000000000L, (office, x) -> office.odds(0, 58, x));
        USUAL.refuses("odds(0, 59, 2)", office -> office.odds(0, 59, 2));
        USUAL.refuses("odds(0, most, 2)", office -> office.odds(0, MOST, 2));
        USUAL.refuses("odds(0, 59, most)", office -> office.odds(0, 59, MOST));
        Bounds none = new Bounds(CHECKS, Bounds.of(people(4)));
        none.refuses("odds(0, 0, 1) without letters", office -> office.odds(0, 0, 1));
    }

    private static void oddsOfFour() {
        CHECKS.sentence("ODDS of a LETTER, of at most 4 PEOPLE, from YEAR y");
        Bounds four = new Bounds(CHECKS, Bounds.of(people(4) + letters(10, "")));
        four.edges("odds(x, 58, 2) of four", 0, 10000000000000000L, 9, 10000000000000000L,
                (office, x) -> office.odds(x, 58, 2));
        four.answers("odds(0, 0, 1) of four", 100000000, office -> office.odds(0, 0, 1));
        for (int people : new int[] {5, 10}) {
            Bounds five = new Bounds(CHECKS, Bounds.of(people(people) + letters(2, "")));
            five.edges("odds(x, 0, 1) of " + people, 0, -2, 1, -2, (office, x) -> office.odds(x, 0, 1));
            five.edges("odds(0, x, 1) of " + people, 0, -2, 59, -2, (office, x) -> office.odds(0, x, 1));
            five.edges("odds(0, 58, x) of " + people, 1, -2, 2, -2, (office, x) -> office.odds(0, 58, x));
            five.refuses("odds(0, 59, 2) of " + people, office -> office.odds(0, 59, 2));
        }
        AfterOffice sure = CHECKS.office(people(2) + "letter a pa pb 0 0 0 if dead pa;letter b pa pa 0 0 0;dies=100;");
        CHECKS.same("the reader surely dies", sure.odds(0, 0, 2), 0);
        CHECKS.same("all surely die", sure.odds(1, 0, 2), 0);
        // He lives through year 0 by 1 way of 100 and through year 1 by none; who is dead counts 100 ways.
        AfterOffice frail = CHECKS.office(people(1) + "letter a pa pa 0 0 0;letter b pa pa 0 0 0 if 1<=year;dies=99+year;");
        CHECKS.same("by one way", frail.odds(0, 0, 1), 1);
        CHECKS.same("by one way and any", frail.odds(0, 0, 2), 100);
        CHECKS.same("by no way", frail.odds(1, 0, 2), 0);
        // In year 0 by 10 * 90 ways of 100 * 100, then any; else both live, by 90 * 90, and then by 10 * 90.
        AfterOffice twice = CHECKS.office(people(2) + "letter a pa pb 0 0 0 if dead pa;dies=10;");
        CHECKS.same("in either year", twice.odds(0, 58, 2), 900 * 10000 + 8100 * 900);
        // Dead in year 0 and read then, or dead in year 1; the other one's COND ends with the first one's being read.
        AfterOffice read = CHECKS.office(people(2) + "letter a pa pb 0 0 0 if dead pa;"
                + "letter b pa pb 0 0 0 if read a and 1<=year;letter c pa pb 0 0 0 if not read a and 1<=year;dies=10;");
        CHECKS.same("behind what was read", read.odds(1, 0, 2), 900 * 9000 + 8100 * 900);
        CHECKS.same("if it was not", read.odds(2, 0, 2), 8100 * 8100);
        AfterOffice chain = CHECKS.office(people(1) + letters(10, " if read #").replace(" if read la;", ";"));
        CHECKS.same("the last of ten in one look", chain.odds(0, 0, 1), 100);
    }

    private static void lifeArguments() {
        CHECKS.sentence("4 the sum of fees; NONE: no such w (0 .. 100), what.");
        // Nobody dies, and the letter is opened in year 0 if its shelf is not flooded then: lot 67 of seed 7.
        Bounds safe = new Bounds(CHECKS, Bounds.of(people(1) + letters(1, "")));
        safe.edges("life(7, x, 0)", 0, 1, 100, 0, (office, x) -> office.life(7, x, 0));
        safe.edges("life(7, x, 1)", 0, 0, 100, 1, (office, x) -> office.life(7, x, 1));
        safe.edges("life(7, 0, x)", 0, 1, 4, 1, (office, x) -> office.life(7, 0, x));
        safe.edges("life(7, 100, x)", 0, 0, 4, 0, (office, x) -> office.life(7, 100, x));
        for (int seed : new int[] {LEAST, -1, 0, MOST}) {
            safe.answers("life(" + seed + ", 0, 0)", 1, office -> office.life(seed, 0, 0));
            safe.answers("life(" + seed + ", 100, 1)", 1, office -> office.life(seed, 100, 1));
        }
        life(people(10) + letters(10, ""), 0, 1023, 0, 0, 1023, 10);
        life(people(10) + letters(10, ""), 100, 0, 1023, 0, 1023, 0);
        life(people(10) + letters(10, "") + "dies=100;", 0, 0, 0, 1023, 0, 0);
        life(people(10) + letters(10, " if dead pj") + "fee=1000;", 0, 0, 0, 0, 1023, 10 * 60 * 999);
        life(people(10), 100, 0, 0, 0, 1023, 0);
        life("fee=5;dies=50;", 50, 0, 0, 0, 0, 0);
    }

    private static void life(String text, int w, int... due) {
        AfterOffice office = CHECKS.office(text);
        for (int what = 0; what < 5; what++) {
            CHECKS.same("life(7, " + w + ", " + what + ") of " + text, office.life(7, w, what), due[what]);
        }
    }

    /* Seeds with their lots of year 0: which 0, 1 and 9, and which 50 to 53; reckoned out in another language. */
    private static final int[][] LOTS = {{0, 59, 1, 15, 38, 97, 29, 43}, {1, 31, 94, 28, 55, 21, 53, 52},
        {7, 2, 5, 91, 67, 50, 88, 7}, {-1, 65, 82, 13, 85, 0, 37, 11}, {MOST, 60, 83, 94, 90, 71, 64, 8},
        {LEAST, 4, 28, 30, 5, 38, 26, 18}};

    private static void diesIfTheLotIsBelow() {
        CHECKS.sentence("each PERSON who lives dies (DEAD at once) if LOT 100 of which 100 * YEAR + PERSON is below DIES");
        int[] persons = {0, 1, 9};
        for (int[] row : LOTS) {
            for (int i = 0; i < persons.length; i++) {
                for (int more = 0; more < 2; more++) {
                    int dies = row[1 + i] + more;
                    AfterOffice office = CHECKS.office(people(10) + "dies=" + dies + "*(1-year);");
                    int lives = office.life(row[0], 0, 3) >> persons[i] & 1;
                    CHECKS.same("seed " + row[0] + ", person " + persons[i] + ", DIES " + dies, lives, 1 - more);
                }
            }
        }
        // The lots of year 59: 3 for seed 781 and person 0, 2 for seed 14 and person 9; all others are above.
        int[][] last = {{781, 0, 3}, {14, 9, 2}};
        for (int[] row : last) {
            for (int more = 0; more < 2; more++) {
                AfterOffice office = CHECKS.office(people(10) + "dies=" + (row[2] + more) + ";");
                int lives = office.life(row[0], 0, 3) >> row[1] & 1;
                CHECKS.same("seed " + row[0] + ", the last year, person " + row[1], lives, 1 - more);
            }
        }
    }

    private static void floodedIfTheLotIsBelow() {
        CHECKS.sentence("each SHELF is flooded if LOT 100 of which 100 * YEAR + 50 + SHELF is below w");
        for (int shelf = 0; shelf < 4; shelf++) {
            AfterOffice office = CHECKS.office(people(1) + "letter a pa pa " + shelf + " 0 0;");
            for (int[] row : LOTS) {
                int lot = row[4 + shelf];
                String name = "seed " + row[0] + ", shelf " + shelf + ", w ";
                CHECKS.same(name + lot, office.life(row[0], lot, 0), 1);
                CHECKS.same(name + (lot + 1), office.life(row[0], lot + 1, 0), 0);
                CHECKS.same(name + (lot + 1), office.life(row[0], lot + 1, 1), 1);
            }
        }
        // The lots of year 59: 1 for seed 104 and shelf 0, 2 for seed 74 and shelf 3; those of the years ahead are above.
        int[][] last = {{104, 0, 1}, {74, 3, 2}};
        for (int[] row : last) {
            AfterOffice office = CHECKS.office(people(1) + "letter a pa pa " + row[1] + " 0 0 if year==59;");
            CHECKS.same("seed " + row[0] + ", opened in the last year", office.life(row[0], row[2], 0), 1);
            CHECKS.same("seed " + row[0] + ", flooded in the last year", office.life(row[0], row[2] + 1, 1), 1);
            CHECKS.same("seed " + row[0] + ", sixty fees", office.life(row[0], row[2], 4), 60);
            CHECKS.same("seed " + row[0] + ", fifty-nine fees", office.life(row[0], row[2] + 1, 4), 59);
        }
    }

    private static void chanceArguments() {
        CHECKS.sentence("Of SEEDS seed, seed + 1, .. (m, 1 .. 50) those by which a LETTER is OPENED; NONE: no such ones.");
        Bounds safe = new Bounds(CHECKS, Bounds.of(people(1) + letters(10, "")));
        safe.edges("chance(x, 7, 1, 0)", 0, 1, 9, 1, (office, x) -> office.chance(x, 7, 1, 0));
        safe.edges("chance(0, 7, x, 0)", 1, 1, 50, 50, (office, x) -> office.chance(0, 7, x, 0));
        safe.edges("chance(0, 7, 50, x)", 0, 50, 100, 0, (office, x) -> office.chance(0, 7, 50, x));
        for (int seed : new int[] {LEAST, -50, -1, 0, MOST}) {
            safe.answers("chance(9, " + seed + ", 50, 0)", 50, office -> office.chance(9, seed, 50, 0));
        }
        Bounds none = new Bounds(CHECKS, Bounds.of(people(1)));
        none.refuses("chance(0, 7, 1, 0) without letters", office -> office.chance(0, 7, 1, 0));
    }

    private static void seedsThatWrap() {
        CHECKS.sentence("Of SEEDS seed, seed + 1, .. (m, 1 .. 50) those by which a LETTER is OPENED");
        // The lots for shelf 0 in year 0: 90 of the greatest seed, 5 of the least, which comes behind it.
        AfterOffice office = CHECKS.office(people(1) + letters(1, ""));
        int[][] cases = {{MOST, 1, 5, 1}, {MOST, 2, 5, 2}, {MOST, 1, 6, 1}, {MOST, 2, 6, 1}, {LEAST, 1, 6, 0},
            {MOST, 1, 90, 1}, {MOST, 2, 90, 1}, {MOST, 1, 91, 0}, {MOST, 2, 91, 0}};
        for (int[] row : cases) {
            String call = "chance(0, " + row[0] + ", " + row[1] + ", " + row[2] + ")";
            CHECKS.same(call, office.chance(0, row[0], row[1], row[2]), row[3]);
        }
        // The lots of seeds -1, 0 and 1: 85, 38 and 55.
        CHECKS.same("chance over 0", office.chance(0, -1, 3, 50), 2);
        CHECKS.same("chance of -1 and 0", office.chance(0, -1, 2, 50), 1);
    }

    public static void main(String[] args) {
        needArguments();
        threeAtMost();
        ofAlikeNeeds();
        asking();
        rings();
        theFewestToBurn();
        futureArguments();
        fivePeopleAndSixLetters();
        firstAndLast();
        livesArguments();
        oddsArguments();
        oddsOfFour();
        lifeArguments();
        diesIfTheLotIsBelow();
        floodedIfTheLotIsBelow();
        chanceArguments();
        seedsThatWrap();
        CHECKS.end();
    }
}
