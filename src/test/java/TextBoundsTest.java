/** Part I of the terms: tokens, faults and what a text changes, each bound on both its sides. */
public final class TextBoundsTest {
    private static final Checks CHECKS = new Checks("TextBoundsTest");
    private static final String[] WORDS = {"person", "clerk", "barred", "letter", "if", "proof", "dies", "fee", "good",
        "or", "and", "not", "dead", "read", "year", "age", "shelf", "late"};
    private static final String PERSON = "person a 1;";
    private static final String LETTER = PERSON + "letter l a a 0 0 0";
    private static final String OPEN_SIX = "((((((";
    private static final String CLOSE_SIX = "))))))";

    private static void blanks() {
        CHECKS.sentence("TOKENS, the longest that can be, with blanks (9, 10, 13, 32) between or not");
        for (int sign = 0; sign < 256; sign++) {
            boolean blank = sign == 9 || sign == 10 || sign == 13 || sign == 32;
            String text = PERSON + (char) sign + "clerk c;";
            CHECKS.fault(text, blank ? 0 : 1, blank ? -1 : PERSON.length());
            CHECKS.fault((char) sign + PERSON, blank ? 0 : 1, blank ? -1 : 0);
            CHECKS.fault(PERSON + (char) sign, blank ? 0 : 1, blank ? -1 : PERSON.length());
        }
        CHECKS.good("person a1;clerk c;barred c a;letter l a a 1 1 1if 1<2and 2<3or not dead a;fee=1+1;");
        CHECKS.at(1, "|persona 1;");
        CHECKS.at(1, "person a 1 |1;");
    }

    private static void bytesInNames() {
        CHECKS.sentence("NAMES (letters a .. z, 8 at most, none of the words in quotes)");
        for (int sign = 0; sign < 256; sign++) {
            String text = "person a" + (char) sign + "c 1;";
            if (sign >= 'a' && sign <= 'z') {
                CHECKS.good(text);
                CHECKS.good("person " + (char) sign + " 1;");
            } else if (sign == 9 || sign == 10 || sign == 13 || sign == 32 || sign >= '0' && sign <= '9') {
                CHECKS.fault(text, 1, 9);
            } else {
                CHECKS.fault(text, 1, 8);
            }
        }
    }

    private static void lengthsOfNames() {
        CHECKS.sentence("NAMES (letters a .. z, 8 at most, none of the words in quotes)");
        String nine = "abcdefghi";
        String eight = "abcdefgh";
        CHECKS.good("person " + eight + " 1;clerk zyxwvuts;barred zyxwvuts " + eight + ";letter aaaaaaaa " + eight + " "
                + eight + " 0 0 0 if dead " + eight + " and read aaaaaaaa;");
        CHECKS.at(1, "person |" + nine + " 1;");
        CHECKS.at(1, "clerk |" + nine + ";");
        CHECKS.at(1, PERSON + "clerk c;barred |" + nine + " a;");
        CHECKS.at(1, PERSON + "clerk c;barred c |" + nine + ";");
        CHECKS.at(1, PERSON + "letter |" + nine + " a a 0 0 0;");
        CHECKS.at(1, PERSON + "letter l |" + nine + " a 0 0 0;");
        CHECKS.at(1, PERSON + "letter l a |" + nine + " 0 0 0;");
        CHECKS.at(1, LETTER + " if dead |" + nine + ";");
        CHECKS.at(1, LETTER + " if read |" + nine + ";");
        CHECKS.at(1, "person |" + "a".repeat(1990) + ";");
        CHECKS.good("person abcdefgh 1;person abcdefgi 1;person abcdefg 1;person bcdefgh 1;");
        CHECKS.at(3, "person abcdefgh 1;person |abcdefgh 1;");
        CHECKS.good("person zzzzzzzz 1;person zzzzzzzy 1;person azzzzzzz 1;");
    }

    private static void wordsAreNoNames() {
        CHECKS.sentence("NAMES (letters a .. z, 8 at most, none of the words in quotes)");
        for (String word : WORDS) {
            CHECKS.at(1, "person |" + word + " 1;");
            CHECKS.at(1, LETTER + " if read |" + word + ";");
            CHECKS.good("person " + word + "x 1;");
            CHECKS.good("person x" + word + " 1;");
            CHECKS.good("person " + word.substring(0, 1) + " 1;");
            CHECKS.good("person " + word.substring(1) + " 1;");
        }
    }

    private static void ints() {
        CHECKS.sentence("INTS (1 to 4 digits)");
        CHECKS.good("person a 9;");
        CHECKS.good("person a 0099;");
        CHECKS.good("fee=9999;");
        CHECKS.good("fee=0000;");
        CHECKS.at(1, "fee=|10000;");
        CHECKS.at(1, "fee=|00000;");
        CHECKS.at(1, "fee=1+|99999;");
        CHECKS.at(1, "proof |00010;");
        CHECKS.at(1, "person a |00001;");
        CHECKS.at(1, "fee=|" + "9".repeat(1990) + ";");
        for (int sign = 0; sign < 256; sign++) {
            boolean digit = sign >= '0' && sign <= '9';
            if (digit) {
                CHECKS.good("person a " + (char) sign + ";");
            }
        }
        AfterOffice office = CHECKS.office("person a 0009;person b 90;letter l a b 0003 0999 0099;");
        CHECKS.same("SHELF 0003", office.letter(0, 2), 3);
        CHECKS.same("LAID IN 0999", office.letter(0, 3), 999);
        CHECKS.same("HARM 0099", office.letter(0, 4), 99);
    }

    private static void signs() {
        CHECKS.sentence("SIGNS ; + - * / == != < <= = ( ) . A longer one, all else, is no TOKEN.");
        CHECKS.good(LETTER + " if 1==1 and 1!=1 and 1<1 and 1<=1;fee=(1+1-1*1/1);");
        CHECKS.at(1, "fee|==1;");
        CHECKS.at(1, "fee= |=1;");
        CHECKS.at(1, LETTER + " if 1|= =1;");
        CHECKS.at(1, LETTER + " if 1|! =1;");
        CHECKS.at(1, LETTER + " if 1< |=1;");
        CHECKS.at(1, LETTER + " if 1<=|=1;");
        CHECKS.at(1, LETTER + " if 1==|=1;");
        CHECKS.at(1, LETTER + " if 1|=<1;");
        CHECKS.at(1, LETTER + " if 1<|<1;");
        CHECKS.at(1, LETTER + " if 1|!1;");
        CHECKS.at(1, LETTER + " if 1|!");
        CHECKS.at(1, LETTER + " if 1<|");
        CHECKS.at(1, LETTER + " if 1<=|");
        for (int sign = 0; sign < 256; sign++) {
            boolean joins = "+-*/".indexOf(sign) >= 0 && sign != 0;
            boolean goesOn = joins || sign >= '0' && sign <= '9';
            String text = "fee=1" + (char) sign + "1;";
            boolean blank = sign == 9 || sign == 10 || sign == 13 || sign == 32;
            int place = blank ? 6 : 5;
            CHECKS.fault(text, sign == ';' || !goesOn ? 1 : 0, sign == ';' ? 6 : goesOn ? -1 : place);
        }
    }

    /* Tells of a kind, each with a name of its own. */
    private static String tells(int many, String before, String behind) {
        StringBuilder text = new StringBuilder();
        for (int i = 0; i < many; i++) {
            text.append(before).append((char) ('b' + i)).append(behind);
        }
        return text.toString();
    }

    private static void fourHundredTokens() {
        CHECKS.sentence("2 ROOM: a 401st TOKEN");
        String full = "fee=1;".repeat(100);
        CHECKS.good(full);
        CHECKS.good(full + " \t\r\n");
        CHECKS.at(2, full + "|fee=1;");
        CHECKS.at(2, full + "  |fee");
        CHECKS.at(2, full + "|person z 1;");
        CHECKS.at(2, "fee=1;".repeat(99) + "fee=1+|1;");
        CHECKS.at(2, "fee=1;".repeat(98) + "fee=1+1+1+|1;");
        CHECKS.good("proof 1;".repeat(132) + "fee=1;");
        CHECKS.at(2, "proof 1;".repeat(132) + "fee=1+|1;");
        CHECKS.good("fee=1" + "+1".repeat(198) + ";");
        CHECKS.at(2, "fee=1" + "+1".repeat(198) + "+|1;");
        CHECKS.at(2, "fee=1" + "+1".repeat(198) + "+|((((((((");
    }

    private static void noMoreThanRoomFor() {
        CHECKS.sentence("an 11th person, a 5th clerk, a 13th barred, an 11th letter (at its first TOKEN)");
        String pair = PERSON + "clerk c;";
        CHECKS.good(tells(10, "person ", " 1;"));
        CHECKS.at(2, tells(10, "person ", " 1;") + "|person z 1;");
        CHECKS.at(2, tells(10, "person ", " 1;") + " clerk y; |person");
        CHECKS.good(tells(4, "clerk ", ";"));
        CHECKS.at(2, tells(4, "clerk ", ";") + "|clerk z;");
        CHECKS.at(2, tells(4, "clerk ", ";") + " person y 1; |clerk");
        CHECKS.good(pair + "barred c a;".repeat(12));
        CHECKS.at(2, pair + "barred c a;".repeat(12) + "|barred c a;");
        CHECKS.at(2, pair + "barred c a;".repeat(12) + " clerk y; |barred");
        CHECKS.good(PERSON + tells(10, "letter ", " a a 0 0 0;"));
        CHECKS.at(2, PERSON + tells(10, "letter ", " a a 0 0 0;") + "|letter z a a 0 0 0;");
        CHECKS.at(2, PERSON + tells(10, "letter ", " a a 0 0 0;") + " clerk y; |letter");
        AfterOffice office = CHECKS.office(tells(10, "person p", " 1;") + tells(4, "clerk c", ";")
                + "barred cb pb;".repeat(12) + tells(10, "letter l", " pb pk 0 0 0;"));
        int[] due = {10, 4, 10, 12};
        for (int what = 0; what < due.length; what++) {
            CHECKS.same("count(" + what + ") of a full text", office.count(what), due[what]);
        }
        CHECKS.same("the reader of a full text's last letter", office.letter(9, 1), 9);
    }

    private static void sixParentheses() {
        CHECKS.sentence("a 7th ( within one another (at it)");
        for (String rule : new String[] {"dies=", "fee=", "good="}) {
            CHECKS.good(rule + OPEN_SIX + "1" + CLOSE_SIX + ";");
            CHECKS.at(2, rule + OPEN_SIX + "|(1)" + CLOSE_SIX + ";");
        }
        CHECKS.good("fee=" + OPEN_SIX + "1" + CLOSE_SIX + "+" + OPEN_SIX + "1" + CLOSE_SIX + ";");
        CHECKS.good("fee=(" + "(((((1)))))+(((((1)))))" + ");");
        CHECKS.at(2, "fee=(" + "(((((1)))))+(((((|(1))))))" + ");");
        CHECKS.at(2, "fee=1+(1*(1-(1/(1+(1*(1-|(1)))))));");
        CHECKS.good("fee=1+(1*(1-(1/(1+(1*(1-1))))));");
        CHECKS.good(LETTER + " if " + OPEN_SIX + "1" + CLOSE_SIX + "<" + OPEN_SIX + "2" + CLOSE_SIX + ";");
        CHECKS.at(2, LETTER + " if " + OPEN_SIX + "|(1)" + CLOSE_SIX + "<2;");
        CHECKS.at(2, LETTER + " if 1<" + OPEN_SIX + "|(2)" + CLOSE_SIX + ";");
        CHECKS.at(2, "fee=" + OPEN_SIX + "|(");
        CHECKS.at(1, "fee=" + OPEN_SIX + "1|(");
        CHECKS.at(1, "fee=" + OPEN_SIX + "|)");
        CHECKS.at(1, "fee=" + OPEN_SIX + "|");
    }

    private static void theEndIsItsLength() {
        CHECKS.sentence("the first by its place (a byte; the text's end: its length)");
        String[] texts = {"person", "person ", "person a", "person a 1", "person a 1 \n", "clerk", "clerk c", "barred c",
            PERSON + "letter l a a 0 0 0", PERSON + "letter l a a 0 0 0 if", LETTER + " if not", LETTER + " if dead",
            LETTER + " if dead a", LETTER + " if dead a and", LETTER + " if 1", LETTER + " if 1<", LETTER + " if 1<2 or",
            "proof", "proof 1", "dies", "dies=", "dies=1", "fee=1+", "fee=(1", "good=(1)"};
        for (String text : texts) {
            CHECKS.fault(text, 1, text.length());
        }
        CHECKS.fault(" ".repeat(1990) + "person a 1", 1, 2000);
        CHECKS.fault("person" + " ".repeat(1994), 1, 2000);
        CHECKS.good("");
    }

    private static void ofOnePlaceTheLeast() {
        CHECKS.sentence("of one place the least: 1 SYNTAX: a TOKEN, or what is none, with which no text goes on.");
        String full = "fee=1;".repeat(100);
        CHECKS.at(1, full + "|;");
        CHECKS.at(1, full + "|x");
        CHECKS.at(1, full + "|#");
        CHECKS.at(1, full + "|abcdefghi");
        CHECKS.at(1, full + "|12345");
        CHECKS.at(1, "fee=1;".repeat(99) + "fee=1+|;");
        CHECKS.at(1, "fee=1;".repeat(99) + "fee=1+|");
        CHECKS.at(1, tells(10, "person ", " 1;") + "|persons z 1;");
        CHECKS.at(2, tells(10, "person ", " 1;") + "fee=1;".repeat(90) + "|person z 1;");
    }

    private static void theFirstByItsPlace() {
        CHECKS.sentence("FAULTS of a text, the first by its place");
        CHECKS.at(1, "fee=|;fee=(((((((1;");
        CHECKS.at(2, "fee=((((((|(1;fee=;");
        CHECKS.at(2, tells(4, "clerk ", ";") + "|clerk ;");
        CHECKS.at(1, tells(4, "clerk ", ";") + "|clerks;clerk z;");
        CHECKS.at(3, "clerk c;clerk |c;barred d e;proof 0;");
        CHECKS.at(4, "clerk c;barred |d c;clerk c;proof 0;");
        CHECKS.at(5, "clerk c;proof |0;barred d c;clerk c;");
        CHECKS.at(4, LETTER + " if read |z;clerk a;");
        CHECKS.at(3, PERSON + "clerk |a;letter l a a 0 0 0 if read z;");
    }

    private static void syntaxAndRoomGoAhead() {
        CHECKS.sentence("If there is none, likewise: 3 TWICE");
        CHECKS.at(1, "clerk c;clerk c;|;");
        CHECKS.at(1, "clerk c;barred d e;|;");
        CHECKS.at(1, "proof 0;|;");
        CHECKS.at(1, "proof 0|");
        CHECKS.at(1, LETTER + " if read z;|;");
        CHECKS.at(1, LETTER + " if read z|");
        CHECKS.at(2, LETTER + " if read z;fee=((((((|(1)))))));");
        CHECKS.at(2, "clerk c;clerk c;fee=((((((|(1)))))));");
        CHECKS.at(2, "proof 0;" + tells(10, "person ", " 100;") + "|person z 1;");
        CHECKS.at(2, "barred d e;" + "fee=1;".repeat(99) + "|fee=1;");
        CHECKS.at(4, "barred |d e;" + "fee=1;".repeat(99));
    }

    private static void toldTwice() {
        CHECKS.sentence("3 TWICE: a NAME told already (of people, clerks, letters, all together).");
        String[] before = {"person ", "clerk ", "letter "};
        String[] behind = {" 1;", ";", " w w 0 0 0;"};
        for (int first = 0; first < 3; first++) {
            for (int second = 0; second < 3; second++) {
                String start = "person w 1;" + before[first] + "q" + behind[first] + before[second];
                CHECKS.fault(start + "q" + behind[second], 3, start.length());
                CHECKS.good(start + "r" + behind[second]);
            }
        }
        CHECKS.at(3, tells(9, "person ", " 1;") + "person |b 1;");
        CHECKS.at(3, tells(3, "clerk ", ";") + "clerk |b;");
        CHECKS.at(3, PERSON + tells(9, "letter ", " a a 0 0 0;") + "letter |j a a 0 0 0;");
    }

    private static void noSuchName() {
        CHECKS.sentence("4 NAME: no such one told ahead");
        CHECKS.good("clerk c;person p 1;barred c p;");
        CHECKS.at(4, "person p 1;barred |c p;clerk c;");
        CHECKS.at(4, "clerk c;barred c |p;person p 1;");
        CHECKS.at(4, "clerk c;person p 1;barred |p p;");
        CHECKS.at(4, "clerk c;person p 1;barred c |c;");
        CHECKS.at(4, LETTER + ";clerk c;barred c |l;");
        CHECKS.good(PERSON + "person b 1;letter l a b 0 0 0;");
        CHECKS.at(4, PERSON + "letter l |b a 0 0 0;person b 1;");
        CHECKS.at(4, PERSON + "letter l a |b 0 0 0;person b 1;");
        CHECKS.at(4, PERSON + "clerk c;letter l |c a 0 0 0;");
        CHECKS.at(4, PERSON + "clerk c;letter l a |c 0 0 0;");
        CHECKS.at(4, PERSON + "letter l a |l 0 0 0;");
        CHECKS.good(LETTER + " if dead a;");
        CHECKS.at(4, LETTER + " if dead |b;person b 1;");
        CHECKS.at(4, "clerk c;" + LETTER + " if not dead |c;");
        CHECKS.at(4, LETTER + " if dead |l;");
    }

    private static void noSuchLetter() {
        CHECKS.sentence("read: no LETTER of the text, wherever it stands");
        CHECKS.good(LETTER + " if read l;");
        CHECKS.good(LETTER + " if read m;letter m a a 0 0 0;");
        CHECKS.good(LETTER + ";letter m a a 0 0 0 if read l;");
        CHECKS.at(4, LETTER + " if read |m;");
        CHECKS.at(4, LETTER + " if read |a;");
        CHECKS.at(4, "clerk c;" + LETTER + " if not read |c;");
        CHECKS.at(4, LETTER + " if read l or read m and not read |n;letter m a a 0 0 0;");
    }

    private static void wrongInts() {
        CHECKS.sentence("5 WRONG (at the INT): an AGE or HARM above 99, a SHELF above 3, more than 999 LAID IN, PROOF not 1 .. 99.");
        CHECKS.good("person a 0;person b 99;");
        CHECKS.at(5, "person a |100;");
        CHECKS.at(5, "person a |0100;");
        CHECKS.at(5, "person a |9999;");
        CHECKS.good(PERSON + "letter l a a 0 0 0;letter m a a 3 999 99;");
        CHECKS.at(5, PERSON + "letter l a a |4 0 0;");
        CHECKS.at(5, PERSON + "letter l a a 0 |1000 0;");
        CHECKS.at(5, PERSON + "letter l a a 0 0 |100;");
        CHECKS.at(5, PERSON + "letter l a a |9999 9999 9999;");
        CHECKS.good("proof 1;");
        CHECKS.good("proof 99;");
        CHECKS.at(5, "proof |0;");
        CHECKS.at(5, "proof |100;");
        CHECKS.at(5, "proof |9999;");
        CHECKS.at(5, "proof |0;proof 1;");
        CHECKS.at(5, "proof 1;proof |0;");
        CHECKS.same("the least PROOF", CHECKS.office("proof 1;").count(4), 1);
        CHECKS.same("the greatest PROOF", CHECKS.office("proof 99;").count(4), 99);
    }

    private static AfterOffice emptiedTape() {
        AfterOffice office = Bounds.usual();
        office.back(Bounds.USUAL_TAPE.length());
        return office;
    }

    private static void aFaultChangesNothing() {
        CHECKS.sentence("A text with a FAULT changes nothing but the tape");
        String told = "person z 7;clerk k;barred k z;letter o z z 1 2 3 if 1<2;proof 33;dies=3;fee=3;good=3;";
        String[] faults = {told + ";", told + "letter", told + "fee=(((((((1;", told + "clerk z;", told + "barred k k;",
            told + "letter p z z 0 0 0 if read q;", told + "proof 0;", told + "person y 100;"};
        int[] due = {1, 1, 2, 3, 4, 4, 5, 5};
        for (int i = 0; i < faults.length; i++) {
            AfterOffice office = emptiedTape();
            CHECKS.same("read() of " + faults[i], Checks.read(office, faults[i]), due[i]);
            CHECKS.same("bytes behind " + faults[i], office.count(6), 0);
            CHECKS.same("all behind " + faults[i], State.withoutTape(office), State.withoutTape(emptiedTape()));
            AfterOffice again = emptiedTape();
            Checks.read(again, faults[i]);
            CHECKS.same("gain behind " + faults[i], again.gain(5, 20), 73);
            CHECKS.same("a fact behind " + faults[i], again.flood(59, 3), 5);
        }
    }

    private static void aGoodTextIsInPlace() {
        CHECKS.sentence("else it is in place of the one ahead: there are no FACTS, SLOTS hold nothing");
        for (String text : new String[] {"", Bounds.USUAL_TEXT, "clerk k;"}) {
            AfterOffice office = emptiedTape();
            office.hold(0);
            office.hold(2);
            CHECKS.same("read()", Checks.read(office, text), 0);
            CHECKS.same("facts", office.count(5), 0);
            CHECKS.same("slots", office.count(7), 0);
            CHECKS.none("fact(0, 0)", office.fact(0, 0));
            for (int slot = 0; slot < 3; slot++) {
                CHECKS.same("restore(" + slot + ")", office.restore(slot), false);
            }
            CHECKS.same("the first fact", office.flood(59, 3), 0);
            CHECKS.same("people", office.count(0), text.startsWith("person") ? 3 : 0);
            CHECKS.same("PROOF", office.count(4), text.startsWith("person") ? 12 : 10);
        }
        AfterOffice office = emptiedTape();
        Checks.read(office, "person a 99;letter l a a 0 0 0;letter m a a 0 0 0;");
        CHECKS.same("dies of the text ahead", office.dies(0, 59), 0);
        CHECKS.same("fee of the text ahead", office.fee(0, 59), 1);
        CHECKS.same("good of the text ahead", office.gain(0, 1), 0);
        CHECKS.same("conditions of the text ahead", office.opened(0, 0, 1), 1);
        CHECKS.same("asks of the text ahead", office.asks(1), 0);
        CHECKS.same("clerks of the text ahead", office.clerk(0), -2);
    }

    /* What texts ahead have told takes no room from the next one. */
    private static void manyTextsOneAfterTheOther() {
        CHECKS.sentence("else it is in place of the one ahead");
        AfterOffice office = new AfterOffice();
        String text = PERSON + "letter l a a 0 9 9 if 1" + "+1".repeat(150) + "==151 and 3<=year;";
        for (int i = 0; i < 6; i++) {
            CHECKS.same("read() of text " + i, Checks.read(office, text), 0);
            CHECKS.same("the year of text " + i, office.run(0, 0, 1, 1), 3);
            CHECKS.same("read() of a fault behind text " + i, Checks.read(office, text + ";"), 1);
        }
        CHECKS.same("a shorter text", Checks.read(office, LETTER + " if 5<=year;"), 0);
        CHECKS.same("its year", office.run(0, 0, 1, 1), 5);
        CHECKS.same("its LAID IN", office.letter(0, 3), 0);
    }

    public static void main(String[] args) {
        blanks();
        bytesInNames();
        lengthsOfNames();
        wordsAreNoNames();
        ints();
        signs();
        fourHundredTokens();
        noMoreThanRoomFor();
        sixParentheses();
        theEndIsItsLength();
        ofOnePlaceTheLeast();
        theFirstByItsPlace();
        syntaxAndRoomGoAhead();
        toldTwice();
        noSuchName();
        noSuchLetter();
        wrongInts();
        aFaultChangesNothing();
        aGoodTextIsInPlace();
        manyTextsOneAfterTheOther();
        CHECKS.end();
    }
}
