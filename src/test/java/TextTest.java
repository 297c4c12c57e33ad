/** Promises 1 to 5 and 44: the tape, the faults of texts and what a read changes. */
public final class TextTest {
    private static final Checks CHECKS = new Checks("TextTest");
    private static final String PERSON = "person a 1; ";
    private static final String LETTER = PERSON + "letter l a a 0 0 0";

    private static void fault(String text, int number, int place) {
        CHECKS.fault(text, number, place);
    }

    private static void good(String text) {
        CHECKS.good(text);
    }

    private static void at(int number, String marked) {
        CHECKS.at(number, marked);
    }

    private static void newObject() {
        AfterOffice office = new AfterOffice();
        int[] counts = {0, 0, 0, 0, 10, 0, 0, 0, -1};
        for (int what = 0; what < counts.length; what++) {
            CHECKS.same("count(" + what + ") of a new one", office.count(what), counts[what]);
        }
        CHECKS.none("count(-1)", office.count(-1));
        CHECKS.none("count(least)", office.count(Integer.MIN_VALUE));
        CHECKS.none("place() of a new one", office.place());
        CHECKS.none("letter(0, 0) of a new one", office.letter(0, 0));
        CHECKS.none("fact(0, 0) of a new one", office.fact(0, 0));
        CHECKS.none("annul(0) of a new one", office.annul(0));
        CHECKS.same("clerk(0) of a new one", office.clerk(0), -2);
        CHECKS.same("restore(0) of a new one", office.restore(0), false);
        CHECKS.same("burn() of a new one", office.burn(), 0);
    }

    private static void tape() {
        AfterOffice office = new AfterOffice();
        CHECKS.none("back(1) of nothing", office.back(1));
        CHECKS.same("back(0) of nothing", office.back(0), 0);
        for (int i = 1; i <= 100; i++) {
            CHECKS.same("feed " + i, office.feed(0x20202020, 0x20202020, 0x20202020, 0x20202020, 0x20202020), 20 * i);
        }
        CHECKS.none("feed beyond 2000", office.feed(0, 0, 0, 0, 0));
        CHECKS.same("bytes", office.count(6), 2000);
        CHECKS.same("back(1)", office.back(1), 1999);
        CHECKS.none("feed to 2019", office.feed(0, 0, 0, 0, 0));
        CHECKS.same("bytes", office.count(6), 1999);
        CHECKS.same("back(19)", office.back(19), 1980);
        CHECKS.same("feed to 2000", office.feed(-1, -1, -1, -1, -1), 2000);
        CHECKS.none("back(-1)", office.back(-1));
        CHECKS.none("back(2001)", office.back(2001));
        CHECKS.none("back(most)", office.back(Integer.MAX_VALUE));
        CHECKS.none("back(least)", office.back(Integer.MIN_VALUE));
        CHECKS.same("bytes", office.count(6), 2000);
        CHECKS.same("read() of bytes 255", office.read(), 1);
        CHECKS.same("place() of bytes 255", office.place(), 1980);
        CHECKS.same("bytes", office.count(6), 0);
        CHECKS.same("feed", office.feed(0x70657273, 0x6f6e2061, 0x62203039, 0x373b2020, 0x20202020), 20);
        CHECKS.same("read() of person ab 097;", office.read(), 0);
        CHECKS.same("people", office.count(0), 1);
        office.feed(0, 0, 0, 0, 0);
        CHECKS.same("back(20)", office.back(20), 0);
        CHECKS.same("read() of nothing", office.read(), 0);
        CHECKS.same("people of an empty text", office.count(0), 0);
    }

    private static void tokens() {
        good("");
        good(" \t\r\n ");
        good("person a 1;");
        good("\tperson\na\r1 ; ");
        good("person a1;person b2;");
        good("person abcdefgh 0099;");
        at(1, "person |abcdefghi 1;");
        at(1, "person a |12345;");
        at(1, "person a |00001;");
        at(1, "|personx 1;");
        at(1, "|Person a 1;");
        at(1, "person |A 1;");
        at(1, "person a|_ 1;");
        at(1, "person a 1|.");
        at(1, "person a |-1;");
        at(1, "person |1 a;");
        at(1, "person |dead 1;");
        at(1, "person |late 1;");
        at(1, "|" + (char) 11);
        at(1, "person a 1|" + (char) 0 + ";");
        at(1, "person a 1;|" + (char) 160);
        at(1, "person a|" + (char) 225 + " 1;");
        at(1, "fee|==1;");
        at(1, "fee= |=1;");
        at(1, LETTER + " if 1|! =2;");
        at(1, LETTER + " if 1< |=2;");
        at(1, LETTER + " if 1|>2;");
        good(LETTER + " if 1!=2 or 1<=2 or 1<2 or 1==2;");
    }

    private static void syntax() {
        at(1, "person|");
        at(1, "person a 1|");
        at(1, "person a 1 |");
        at(1, "|a");
        at(1, "|;");
        at(1, "person a 1;|;");
        at(1, "clerk c |1;");
        good("clerk c; person a 1; barred c a;");
        at(1, "barred c|");
        at(1, PERSON + "letter l a |0 0 0;");
        at(1, PERSON + "letter l a a 0 0|;");
        at(1, PERSON + "letter l a a 0 0 0 |0;");
        at(1, LETTER + " if|;");
        at(1, LETTER + " if 1|;");
        at(1, LETTER + " if (1|<2);");
        at(1, LETTER + " if not|;");
        at(1, LETTER + " if dead a and|;");
        at(1, LETTER + " if dead a |dead a;");
        at(1, LETTER + " if dead |1;");
        at(1, LETTER + " if read |read;");
        at(1, LETTER + " if 1<2|<3;");
        at(1, LETTER + " if 1|=2;");
        at(1, LETTER + " if 1|)<2;");
        good(LETTER + " if not not dead a and not 1<2 or read l and (1)<(2);");
        at(1, "proof |a;");
        at(1, "dies |1;");
        at(1, "fee=|;");
        at(1, "fee=|-1;");
        at(1, "fee=1 |2;");
        at(1, "fee=|dead;");
        at(1, "fee=1|<2;");
        at(1, "fee=(1|;");
        at(1, "fee=1|);");
        at(1, "fee=(|);");
        at(1, "fee=1+|;");
        at(1, "good=1|");
        good("good=year+age-shelf*late/(1+2);");
    }

    private static String times(int many, String text) {
        return text.repeat(many);
    }

    /* Tells of a kind, each with another name. */
    private static String named(int many, String before, String behind) {
        StringBuilder s = new StringBuilder();
        for (int i = 0; i < many; i++) {
            s.append(before).append((char) ('b' + i)).append(behind);
        }
        return s.toString();
    }

    private static void room() {
        good(named(10, "person ", " 1;"));
        at(2, named(10, "person ", " 1;") + "|person z 1;");
        at(2, named(10, "person ", " 1;") + "|person 1;");
        at(2, named(10, "person ", " 100;") + "|person z 1;");
        at(1, named(10, "person ", " 1;") + "|z");
        good(named(4, "clerk ", ";"));
        at(2, named(4, "clerk ", ";") + " |clerk z;");
        String pair = PERSON + "clerk c;";
        good(pair + times(12, "barred c a;"));
        at(2, pair + times(12, "barred c a;") + "|barred c a; ;");
        at(2, pair + times(12, "barred x y;") + "|barred");
        good(PERSON + named(10, "letter ", " a a 0 0 0;"));
        at(2, PERSON + named(10, "letter ", " a a 0 0 0;") + "|letter z a a 0 0 0;");
        good("fee=((((((1))))));");
        at(2, "fee=((((((|(1)))))));");
        at(2, "fee=((((((|(");
        good("fee=((((((1))))))*((((((year))))));");
        good(LETTER + " if ((((((1))))))<((((((2))))));");
        at(2, LETTER + " if 1<((((((|(2)))))));");
        String full = times(100, "fee=1;");
        good(full);
        good(full + "   ");
        at(2, full + " |fee=1;");
        at(2, full + "|person");
        at(1, full + "|;");
        at(1, full + "|x");
        at(1, full + " |#");
        at(1, full + "|fees");
        String nearly = times(99, "fee=1;");
        at(2, nearly + "fee=1+|1;");
        at(1, nearly + "fee=1+|;");
        at(1, nearly + "fee=1|");
        at(1, nearly + "fee=1+|");
        at(2, nearly + "fee=(1|);");
        good(times(98, "fee=1;") + "fee=1+1+1;");
        at(2, times(98, "fee=1;") + "fee=1+(1+1|);");
    }

    /* Each token of a text is once the 401st: room behind tells that fill it up, syntax if it does not fit. */
    private static void everyTokenTooMany() {
        String text = "person a 1;clerk c;barred c a;letter l a a 0 1 2 if not dead a and read l or(1+2)*year<=3-4/5;"
                + "letter m a a 3 4 5;proof 7;dies=age;fee=shelf;good=late+(2);";
        int tokens = 0;
        for (int i = 0; i < text.length(); i++) {
            boolean letters = Character.isLetter(text.charAt(i)) && i > 0 && Character.isLetter(text.charAt(i - 1));
            boolean second = text.charAt(i) == '=' && text.charAt(i - 1) == '<';
            if (text.charAt(i) == ' ' || letters || second) {
                continue;
            }
            int filling = 400 - tokens;
            int threes = (4 - filling % 4) % 4;
            String ahead = times(threes, "proof 5;") + times((filling - threes * 3) / 4, "fee=1;");
            fault(ahead + text, 2, ahead.length() + i);
            fault(ahead + text.substring(0, i) + " ?", 1, ahead.length() + i + 1);
            tokens++;
        }
        CHECKS.same("tokens of the text", tokens, 67);
    }

    private static void twice() {
        at(3, PERSON + "person |a 2;");
        at(3, PERSON + "clerk |a;");
        at(3, "clerk c; person |c 1;");
        at(3, "clerk c; clerk |c;");
        at(3, PERSON + "letter |a a a 0 0 0;");
        at(3, LETTER + "; letter |l a a 0 0 0;");
        at(3, LETTER + "; person |l 0;");
        at(3, PERSON + "person |a 100;");
        at(3, PERSON + "letter |a x x 9 0 0 if read z;");
        at(3, LETTER + " if read b; person |a 1; letter b a a 0 0 0;");
    }

    private static void names() {
        at(4, PERSON + "barred |c a;");
        at(4, "clerk c; barred c |a; person a 1;");
        at(4, PERSON + "barred |c a; clerk c;");
        at(4, PERSON + "barred |a a;");
        at(4, "clerk c; barred c |c;");
        at(4, PERSON + "letter l |x a 0 0 0;");
        at(4, PERSON + "letter l a |x 0 0 0; person x 1;");
        at(4, PERSON + "letter l |l a 0 0 0;");
        at(4, "clerk c; letter l |c c 0 0 0;");
        at(4, LETTER + " if dead |x; person x 1;");
        at(4, LETTER + " if dead |l;");
        at(4, LETTER + " if read |x;");
        at(4, LETTER + " if read |a;");
        good(LETTER + " if read l;");
        good(LETTER + " if not read m; letter m a a 0 0 0;");
        at(4, LETTER + " if read |z; person a 1;");
        at(4, LETTER + " if read m or read |z; letter m a a 4 0 0;");
        at(4, LETTER + " if read l and 1<2 and dead |z or read y;");
    }

    private static void wrongs() {
        good("person a 0;person b 99;");
        at(5, "person a |100;");
        at(5, "person a |9999;");
        at(5, "person a |100; person a 1;");
        good(PERSON + "letter l a a 3 999 99;");
        at(5, PERSON + "letter l a a |4 1000 100;");
        at(5, PERSON + "letter l a a 3 |1000 100;");
        at(5, PERSON + "letter l a a 3 999 |100;");
        good("proof 1; proof 99;");
        at(5, "proof |0;");
        at(5, "proof |100;");
        at(5, "proof |0; proof 5;");
        at(5, "proof 5; proof |100;");
        at(1, "proof 0; |x");
        at(1, "proof 100; person a 100; letter l b c 9 1000 100 if dead x; |x");
        at(1, "person a 100; barred x y; |x");
        at(2, "person a 100; fee=((((((|(1)))))));");
        good("fee=9999;dies=9999;good=9999;");
    }

    private static void whatAReadChanges() {
        AfterOffice office = CHECKS.office("person a 1; clerk c; barred c a; barred c a; letter l a a 1 2 3; proof 7;");
        int[] counts = {1, 1, 1, 2, 7, 0, 0, 0};
        for (int what = 0; what < counts.length; what++) {
            CHECKS.same("count(" + what + ")", office.count(what), counts[what]);
        }
        office.rumour(0, 0, 5);
        office.hold(0);
        office.hold(2);
        office.death(1, 0);
        CHECKS.same("read() with a fault", Checks.read(office, "person b 1; person b 2;"), 3);
        CHECKS.same("place()", office.place(), 19);
        int[] same = {1, 1, 1, 2, 7, 2, 0, 2};
        for (int what = 0; what < same.length; what++) {
            CHECKS.same("count(" + what + ") behind a fault", office.count(what), same[what]);
        }
        CHECKS.same("letter(0, 2) behind a fault", office.letter(0, 2), 1);
        CHECKS.same("barred(0, 0) behind a fault", office.barred(0, 0), 1);
        CHECKS.same("read()", Checks.read(office, "person b 1; clerk c; proof 3; proof 4;"), 0);
        CHECKS.none("place() behind a good one", office.place());
        int[] now = {1, 1, 0, 0, 4, 0, 0, 0};
        for (int what = 0; what < now.length; what++) {
            CHECKS.same("count(" + what + ") of the new text", office.count(what), now[what]);
        }
        CHECKS.same("barred(0, 0) of the new text", office.barred(0, 0), 0);
        CHECKS.same("restore(0) of the new text", office.restore(0), false);
        CHECKS.same("read() of nothing", office.read(), 0);
        CHECKS.same("proof not told", office.count(4), 10);
    }

    public static void main(String[] args) {
        newObject();
        tape();
        tokens();
        syntax();
        room();
        everyTokenTooMany();
        twice();
        names();
        wrongs();
        whatAReadChanges();
        CHECKS.end();
    }
}
