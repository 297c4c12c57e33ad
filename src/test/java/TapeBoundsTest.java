/** Promises 1 to 5: each sentence that names a bound of the tape or says what a new object answers. */
public final class TapeBoundsTest {
    private static final Checks CHECKS = new Checks("TapeBoundsTest");
    private static final Bounds USUAL = new Bounds(CHECKS, Bounds::usual);
    private static final int SEMICOLONS = 0x3b3b3b3b;
    private static final int BLANKS = 0x20202020;

    private static void newObjectIsEmpty() {
        CHECKS.sentence("Nothing is told; no FACTS.");
        Bounds made = new Bounds(CHECKS, AfterOffice::new);
        long[] counts = {0, 0, 0, 0, 10, 0, 0, 0};
        for (int i = 0; i < counts.length; i++) {
            int what = i;
            made.answers("count(" + i + ")", counts[i], office -> office.count(what));
        }
        made.answers("place()", -1, AfterOffice::place);
        made.answers("back(0)", 0, office -> office.back(0));
        made.answers("clerk(0)", -2, office -> office.clerk(0));
        made.answers("clerk(59)", -2, office -> office.clerk(59));
        made.answers("flood(59, 3)", 0, office -> office.flood(59, 3));
        made.answers("hold(0)", 1, office -> office.hold(0) ? 1 : 0);
        made.answers("read()", 0, AfterOffice::read);
        made.refuses("restore(0)", 0, office -> office.restore(0) ? 1 : 0);
    }

    private static void newObjectHasNoSuchOnes() {
        CHECKS.sentence("Nothing is told; no FACTS.");
        Bounds made = new Bounds(CHECKS, AfterOffice::new);
        made.refuses("letter(0, 0)", office -> office.letter(0, 0));
        made.refuses("dies(0, 0)", office -> office.dies(0, 0));
        made.refuses("fee(0, 0)", office -> office.fee(0, 0));
        made.refuses("barred(0, 0)", office -> office.barred(0, 0));
        made.refuses("rumour(0, 0, 1)", office -> office.rumour(0, 0, 1));
        made.refuses("death(0, 0)", office -> office.death(0, 0));
        made.refuses("takeBack(0, 0)", office -> office.takeBack(0, 0));
        made.refuses("early(0, 0)", office -> office.early(0, 0));
        made.refuses("date(0, 0, 0)", office -> office.date(0, 0, 0));
        made.refuses("annul(0)", office -> office.annul(0));
        made.refuses("fact(0, 0)", office -> office.fact(0, 0));
        made.refuses("weighs(0, 0, 0)", office -> office.weighs(0, 0, 0));
        made.refuses("run(0, 0, 1, 0)", office -> office.run(0, 0, 1, 0));
        made.refuses("opened(0, 0, 0)", office -> office.opened(0, 0, 0));
        made.refuses("why(0, 0, 0)", office -> office.why(0, 0, 0));
        made.refuses("late(0, 0, 1)", office -> office.late(0, 0, 1));
        made.refuses("need(0, 0, 0, 0, 0)", office -> office.need(0, 0, 0, 0, 0));
        made.refuses("asks(0)", office -> office.asks(0));
        made.refuses("ring(0)", office -> office.ring(0));
        made.refuses("future(0, 0, 0, 0, 0)", office -> office.future(0, 0, 0, 0, 0));
        made.refuses("lives(0, 0, 0)", office -> office.lives(0, 0, 0));
        made.refuses("odds(0, 0, 1)", office -> office.odds(0, 0, 1));
        made.refuses("chance(0, 0, 1, 0)", office -> office.chance(0, 0, 1, 0));
    }

    private static void newObjectRunsAllTheSame() {
        CHECKS.sentence("Nothing is told; no FACTS.");
        Bounds made = new Bounds(CHECKS, AfterOffice::new);
        made.edges("harm(n)", 0, 0, 0, 0, AfterOffice::harm);
        made.edges("tooSoon(n)", 0, 0, 0, 0, AfterOffice::tooSoon);
        made.edges("wrong(0, n, 0)", 0, 0, 0, 0, (office, n) -> office.wrong(0, n, 0));
        made.edges("wrong(59, n, 1)", 0, 0, 0, 0, (office, n) -> office.wrong(59, n, 1));
        made.edges("watch(n, 0)", 0, 20, 0, 20, (office, n) -> office.watch(n, 0));
        made.edges("gain(n, 20)", 0, 0, 0, 0, (office, n) -> office.gain(n, 20));
        made.edges("income(n, 0, 59)", 0, 0, 0, 0, (office, n) -> office.income(n, 0, 59));
        made.edges("next(0, n)", 0, -2, 0, -2, (office, n) -> office.next(0, n));
        made.edges("looks(n, 0)", 0, 0, 0, 0, (office, n) -> office.looks(n, 0));
        made.edges("looks(0, what)", 0, 0, 2, 0, (office, what) -> office.looks(0, what));
        made.answers("looks(0, 1)", 1, office -> office.looks(0, 1));
        made.answers("rings()", 0, AfterOffice::rings);
        made.answers("burn()", 0, AfterOffice::burn);
        made.edges("life(7, 100, what)", 0, 0, 4, 0, (office, what) -> office.life(7, 100, what));
        made.answers("life(7, 100, 1)", 0, office -> office.life(7, 100, 1));
        made.answers("life(7, 100, 2)", 0, office -> office.life(7, 100, 2));
        made.answers("life(7, 100, 3)", 0, office -> office.life(7, 100, 3));
    }

    /* An office whose tape has so many bytes: blanks, then a text that is good if nothing comes or goes. */
    private static AfterOffice filled(int bytes) {
        AfterOffice office = new AfterOffice();
        Checks.lay(office, " ".repeat(bytes - 11) + "person a 1;");
        return office;
    }

    private static void feedUpTo2000() {
        CHECKS.sentence("NONE, and nothing comes, if it would have more than 2,000.");
        for (int bytes : new int[] {1979, 1980}) {
            AfterOffice office = filled(bytes);
            int due = bytes + 20;
            CHECKS.same("feed at " + bytes, office.feed(SEMICOLONS, BLANKS, BLANKS, BLANKS, BLANKS), due);
            CHECKS.same("bytes", office.count(6), due);
            CHECKS.same("read() of what came", office.read(), 1);
            CHECKS.same("place() of what came", office.place(), bytes);
        }
        for (int bytes : new int[] {1981, 1982, 1990, 1999, 2000}) {
            new Bounds(CHECKS, () -> filled(bytes)).refuses("feed at " + bytes,
                    office -> office.feed(SEMICOLONS, SEMICOLONS, SEMICOLONS, SEMICOLONS, SEMICOLONS));
            AfterOffice office = filled(bytes);
            office.feed(SEMICOLONS, SEMICOLONS, SEMICOLONS, SEMICOLONS, SEMICOLONS);
            CHECKS.same("bytes behind a refused feed", office.count(6), bytes);
            CHECKS.same("read() behind a refused feed", office.read(), 0);
            CHECKS.same("people behind a refused feed", office.count(0), 1);
        }
    }

    private static void twoThousandBytesAreRead() {
        CHECKS.sentence("A TEXT has 2,000 bytes at most.");
        AfterOffice office = filled(2000);
        CHECKS.same("bytes", office.count(6), 2000);
        CHECKS.same("read()", office.read(), 0);
        CHECKS.same("people", office.count(0), 1);
        CHECKS.same("feed behind it", office.feed(BLANKS, BLANKS, BLANKS, BLANKS, BLANKS), 20);
        CHECKS.fault(" ".repeat(1999) + ";", 1, 1999);
        CHECKS.good(" ".repeat(2000));
    }

    private static void highestByteFirst() {
        CHECKS.sentence("Twenty bytes, the highest of a first, come behind the tape: how many it has.");
        for (int i = 0; i < 20; i++) {
            int[] five = {BLANKS, BLANKS, BLANKS, BLANKS, BLANKS};
            five[i / 4] ^= (' ' ^ ';') << 24 - 8 * (i % 4);
            AfterOffice office = new AfterOffice();
            CHECKS.same("feed", office.feed(five[0], five[1], five[2], five[3], five[4]), 20);
            CHECKS.same("read() of a sign at " + i, office.read(), 1);
            CHECKS.same("place() of a sign at " + i, office.place(), i);
        }
        AfterOffice office = new AfterOffice();
        office.feed(BLANKS, BLANKS, BLANKS, BLANKS, BLANKS);
        CHECKS.same("a second feed", office.feed(BLANKS, BLANKS, 0x203b2020, BLANKS, BLANKS), 40);
        office.read();
        CHECKS.same("place() behind the first twenty", office.place(), 29);
    }

    private static void backUpToAll() {
        CHECKS.sentence("NONE, and nothing goes, if it has not so many, or n is below 0.");
        USUAL.edges("back(n) of 17", 0, 17, 17, 0, AfterOffice::back);
        USUAL.answers("back(1) of 17", 16, office -> office.back(1));
        USUAL.answers("back(16) of 17", 1, office -> office.back(16));
        Bounds full = new Bounds(CHECKS, () -> filled(2000));
        full.edges("back(n) of 2000", 0, 2000, 2000, 0, AfterOffice::back);
        Bounds empty = new Bounds(CHECKS, AfterOffice::new);
        empty.edges("back(n) of none", 0, 0, 0, 0, AfterOffice::back);
    }

    private static void theLastBytesGo() {
        CHECKS.sentence("The last n bytes of the tape go: how many it has.");
        AfterOffice office = new AfterOffice();
        Checks.lay(office, "person a 1;person b 100");
        CHECKS.same("back(12)", office.back(12), 11);
        CHECKS.same("read()", office.read(), 0);
        CHECKS.same("people", office.count(0), 1);
        Checks.lay(office, "person a 1;person b 100");
        office.back(1);
        Checks.lay(office, ";");
        CHECKS.same("read() of what came in its place", office.read(), 0);
        CHECKS.same("people", office.count(0), 2);
    }

    private static void readEmptiesTheTape() {
        CHECKS.sentence("The tape, which is empty then, is read: 0, or the number of its FAULT.");
        String[] texts = {"", " ", "person a 1;", "person", "fee=((((((((", "clerk a;clerk a;", "barred a a;", "proof 0;"};
        int[] due = {0, 0, 0, 1, 2, 3, 4, 5};
        for (int i = 0; i < texts.length; i++) {
            AfterOffice office = new AfterOffice();
            Checks.lay(office, texts[i]);
            CHECKS.same("read() of " + texts[i], office.read(), due[i]);
            CHECKS.same("bytes behind " + texts[i], office.count(6), 0);
            CHECKS.none("back(1) behind " + texts[i], office.back(1));
            CHECKS.same("read() again", office.read(), 0);
            CHECKS.none("place() of nothing", office.place());
        }
    }

    private static void placeOfTheLatestRead() {
        CHECKS.sentence("The byte of the latest read()'s FAULT; NONE without.");
        AfterOffice office = new AfterOffice();
        CHECKS.none("place() ahead of a read", office.place());
        Checks.read(office, ";");
        CHECKS.same("place() at the first byte", office.place(), 0);
        Checks.lay(office, "person a 1;");
        CHECKS.same("place() while bytes wait", office.place(), 0);
        office.read();
        CHECKS.none("place() without fault", office.place());
        Checks.read(office, " ".repeat(1994) + "person");
        CHECKS.same("place() at the end of 2000", office.place(), 2000);
        Checks.read(office, "person a 100;");
        CHECKS.same("place() of the latest", office.place(), 9);
        office.feed(0, 0, 0, 0, 0);
        office.back(20);
        CHECKS.same("place() behind feed and back", office.place(), 9);
        office.read();
        CHECKS.none("place() of an empty text", office.place());
    }

    public static void main(String[] args) {
        newObjectIsEmpty();
        newObjectHasNoSuchOnes();
        newObjectRunsAllTheSame();
        feedUpTo2000();
        twoThousandBytesAreRead();
        highestByteFirst();
        backUpToAll();
        theLastBytesGo();
        readEmptiesTheTape();
        placeOfTheLatestRead();
        CHECKS.end();
    }
}
