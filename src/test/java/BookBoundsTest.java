/** Promises 6 to 10 and 44, and the bounds of what rules and conditions reckon: each on both its sides. */
public final class BookBoundsTest {
    private static final Checks CHECKS = new Checks("BookBoundsTest");
    private static final Bounds USUAL = new Bounds(CHECKS, Bounds::usual);

    private static void letters() {
        CHECKS.sentence("Of a LETTER: what 0 the WRITER, 1 the READER, 2 SHELF, 3 what is LAID IN, 4 HARM. NONE for others.");
        USUAL.edges("letter(x, 3)", 0, 999, 1, 5, (office, x) -> office.letter(x, 3));
        USUAL.edges("letter(0, x)", 0, 0, 4, 99, (office, x) -> office.letter(0, x));
        USUAL.edges("letter(1, x)", 0, 1, 4, 7, (office, x) -> office.letter(1, x));
        USUAL.answers("letter(1, 1)", 2, office -> office.letter(1, 1));
        USUAL.answers("letter(0, 2)", 3, office -> office.letter(0, 2));
        AfterOffice ten = CHECKS.office(tenOfEach());
        CHECKS.same("letter(9, 0)", ten.letter(9, 0), 9);
        CHECKS.none("letter(10, 0)", ten.letter(10, 0));
    }

    /* Ten people b .. k of ages 90 .. 99, ten letters of which each has its own writer, four clerks. */
    private static String tenOfEach() {
        StringBuilder text = new StringBuilder("clerk ca;clerk cb;clerk cc;clerk cd;");
        for (int i = 0; i < 10; i++) {
            text.append("person ").append((char) ('b' + i)).append(' ').append(90 + i).append(';');
        }
        for (int i = 0; i < 10; i++) {
            text.append("letter l").append((char) ('b' + i)).append(' ').append((char) ('b' + i)).append(" b 3 9 0;");
        }
        return text + "barred ca b;barred cd k;dies=age-80;fee=shelf+year;";
    }

    private static void dying() {
        CHECKS.sentence("DIES of a PERSON in a YEAR; NONE: no such ones.");
        USUAL.edges("dies(x, 0)", 0, 4, 2, 6, (office, x) -> office.dies(x, 0));
        USUAL.edges("dies(0, x)", 0, 4, 59, 9, (office, x) -> office.dies(0, x));
        Bounds ten = new Bounds(CHECKS, Bounds.of(tenOfEach()));
        ten.edges("dies(x, 59) of ten", 0, 69, 9, 78, (office, x) -> office.dies(x, 59));
        ten.edges("dies(9, x) of ten", 0, 19, 59, 78, (office, x) -> office.dies(9, x));
    }

    private static void fees() {
        CHECKS.sentence("The fee of a LETTER in a YEAR (as it is held); NONE: no such ones.");
        USUAL.edges("fee(x, 0)", 0, 4, 1, 1, (office, x) -> office.fee(x, 0));
        USUAL.edges("fee(0, x)", 0, 4, 59, 4, (office, x) -> office.fee(0, x));
        Bounds ten = new Bounds(CHECKS, Bounds.of(tenOfEach()));
        ten.edges("fee(x, 59) of ten", 0, 62, 9, 62, (office, x) -> office.fee(x, 59));
        ten.edges("fee(9, x) of ten", 0, 3, 59, 62, (office, x) -> office.fee(9, x));
    }

    private static void clerks() {
        CHECKS.sentence("The CLERK of a YEAR; -2: there are none; NONE: no such YEAR.");
        USUAL.edges("clerk(x) of two", 0, 0, 59, 1, AfterOffice::clerk);
        Bounds none = new Bounds(CHECKS, Bounds.of("person a 1;"));
        none.edges("clerk(x) of none", 0, -2, 59, -2, AfterOffice::clerk);
        Bounds one = new Bounds(CHECKS, Bounds.of("clerk a;"));
        one.edges("clerk(x) of one", 0, 0, 59, 0, AfterOffice::clerk);
        Bounds three = new Bounds(CHECKS, Bounds.of("clerk a;clerk b;clerk c;"));
        three.edges("clerk(x) of three", 0, 0, 59, 2, AfterOffice::clerk);
        AfterOffice four = CHECKS.office(tenOfEach());
        for (int year = 0; year < 60; year++) {
            CHECKS.same("clerk(" + year + ") of four", four.clerk(year), year % 4);
        }
    }

    private static void barred() {
        CHECKS.sentence("1 if a CLERK is BARRED from opening for a PERSON, else 0; NONE: no such ones.");
        USUAL.edges("barred(x, 1)", 0, 0, 1, 1, (office, x) -> office.barred(x, 1));
        USUAL.edges("barred(1, x)", 0, 0, 2, 0, (office, x) -> office.barred(1, x));
        Bounds ten = new Bounds(CHECKS, Bounds.of(tenOfEach()));
        ten.edges("barred(x, 0) of four", 0, 1, 3, 0, (office, x) -> office.barred(x, 0));
        ten.edges("barred(x, 9) of four", 0, 0, 3, 1, (office, x) -> office.barred(x, 9));
        ten.edges("barred(3, x) of ten", 0, 0, 9, 1, (office, x) -> office.barred(3, x));
        Bounds people = new Bounds(CHECKS, Bounds.of("person a 1;"));
        people.refuses("barred(0, 0) without clerks", office -> office.barred(0, 0));
        Bounds clerk = new Bounds(CHECKS, Bounds.of("clerk a;"));
        clerk.refuses("barred(0, 0) without people", office -> office.barred(0, 0));
    }

    private static void counts() {
        CHECKS.sentence("7 SLOTS that hold something. NONE for others.");
        USUAL.edges("count(x)", 0, 3, 7, 1, AfterOffice::count);
        long[] due = {3, 2, 2, 1, 12, 5, 17, 1};
        for (int i = 0; i < due.length; i++) {
            int what = i;
            USUAL.answers("count(" + i + ")", due[i], office -> office.count(what));
        }
    }

    private static void notTold() {
        CHECKS.sentence("PROOF 1 .. 99 (10 if not told); dies is 0, fee 1, good 0 if not told; of several the last one told.");
        AfterOffice untold = CHECKS.office("person a 99;letter l a a 3 9 9;");
        CHECKS.same("PROOF", untold.count(4), 10);
        CHECKS.same("dies", untold.dies(0, 59), 0);
        CHECKS.same("fee", untold.fee(0, 59), 1);
        CHECKS.same("good", untold.gain(0, 1), 0);
        CHECKS.same("a COND that is not told", untold.opened(0, 0, 0), 0);
        AfterOffice told = CHECKS.office("proof 99;proof 1;dies=9;dies=8;fee=9;fee=8;good=9;good=8;"
                + "person a 99;letter l a a 3 9 9;proof 7;dies=3;fee=4;good=5;");
        CHECKS.same("PROOF told thrice", told.count(4), 7);
        CHECKS.same("dies told thrice", told.dies(0, 59), 3);
        CHECKS.same("fee told thrice", told.fee(0, 59), 4);
        CHECKS.same("good told thrice", told.gain(0, 1), 5);
    }

    private static void fee(String rule, int due) {
        AfterOffice office = CHECKS.office("person a 5;letter l a a 2 0 0;fee=" + rule + ";");
        CHECKS.same("fee " + rule, office.fee(0, 0), due);
    }

    private static void dies(String rule, int due) {
        AfterOffice office = CHECKS.office("person a 5;dies=" + rule + ";");
        CHECKS.same("dies " + rule, office.dies(0, 0), due);
    }

    private static void good(String rule, int due) {
        AfterOffice office = CHECKS.office("person a 5;letter l a a 2 0 0;good=" + rule + ";");
        CHECKS.same("good " + rule, office.gain(0, 1), due);
        CHECKS.same("good " + rule + " by two looks", office.looks(0, 2), due);
    }

    private static void holds(String condition, boolean due) {
        AfterOffice office = CHECKS.office("person a 5;letter l a a 2 0 0 if " + condition + ";");
        CHECKS.same("condition " + condition, office.opened(0, 0, 0), due ? 0 : -1);
    }

    private static void feesAreHeld() {
        CHECKS.sentence("the fee (what fee says, held to 0 .. 999) is paid");
        fee("998", 998);
        fee("999", 999);
        fee("1000", 999);
        fee("9999*9999", 999);
        fee("1", 1);
        fee("0", 0);
        fee("0-1", 0);
        fee("0-9999*9999", 0);
    }

    private static void dyingIsHeld() {
        CHECKS.sentence("he dies in YEAR x by DIES of 100 (what dies says of x, held to 0 .. 100), x from y on");
        dies("99", 99);
        dies("100", 100);
        dies("101", 100);
        dies("9999*9999", 100);
        dies("1", 1);
        dies("0", 0);
        dies("0-1", 0);
        dies("0-9999*9999", 0);
    }

    private static void goodIsHeld() {
        CHECKS.sentence("late: LATE by k, -2 if it is not OPENED with a LOOK each YEAR), held to 0 .. 999");
        good("998", 998);
        good("999", 999);
        good("1000", 999);
        good("9999*9999", 999);
        good("1", 1);
        good("0", 0);
        good("0-1", 0);
        good("0-9999*9999", 0);
    }

    /* 2048 * 1024 * 1024 is the first number that 32 bits do not hold. */
    private static void thirtyTwoBits() {
        CHECKS.sentence("VARS, of 32 bits that wrap");
        fee("2048*1024*1024", 0);
        fee("2048*1024*1024-1", 999);
        fee("2048*1024*1024-1+1", 0);
        fee("0-2048*1024*1024", 0);
        fee("0-2048*1024*1024-1", 999);
        fee("4096*1024*1024", 0);
        fee("4096*1024*1024+7", 7);
        fee("9999*9999*9999*9999*9999*9999", 0);
        fee("0-9999*9999*9999*9999*9999*9999", 999);
        dies("2048*1024*1024-1", 100);
        dies("2048*1024*1024", 0);
        dies("4096*1024*1024+7", 7);
        good("2048*1024*1024-1", 999);
        good("2048*1024*1024", 0);
        good("4096*1024*1024+7", 7);
        holds("2048*1024*1024<0", true);
        holds("0<=2048*1024*1024-1", true);
        holds("2048*1024*1024==0-2048*1024*1024", true);
        holds("4096*1024*1024==0", true);
        holds("4096*1024*1024!=0", false);
    }

    private static void towardsZero() {
        CHECKS.sentence("/ rounded towards 0");
        fee("7/2", 3);
        fee("50+(0-7)/2", 47);
        fee("50+7/(0-2)", 47);
        fee("50+(0-7)/(0-2)", 53);
        fee("50+(0-1)/2", 50);
        fee("1/2", 0);
        fee("2/2", 1);
        fee("(2048*1024*1024)/(0-1)", 0);
        fee("(2048*1024*1024-1)/(0-1)+(2048*1024*1024-1)+5", 5);
        holds("(0-7)/2==0-3", true);
        holds("(2048*1024*1024)/(0-1)<0", true);
    }

    private static void literalsThatDivideByZero() {
        CHECKS.sentence("a LIT with a division by 0 does not hold, its not does");
        for (String sign : new String[] {"==", "!=", "<", "<="}) {
            holds("1/0" + sign + "1", false);
            holds("1" + sign + "1/0", false);
            holds("1/0" + sign + "1/0", false);
            holds("0/0" + sign + "0", false);
            holds("0*(1/0)" + sign + "0", false);
            holds("1/(1/0)" + sign + "0", false);
            holds("not 1/0" + sign + "1", true);
            holds("not 1" + sign + "1/(year-year)", true);
            holds("not not 1/0" + sign + "1", false);
            holds("1/0" + sign + "1 or 1==1", true);
            holds("1==1 and 1/0" + sign + "1", false);
            holds("1/0" + sign + "1 and 1==1", false);
            holds("not 1/0" + sign + "1 and 1==1", true);
            holds("1==1 and not 1/0" + sign + "1", true);
        }
        holds("1/1==1", true);
        holds("1/(0-1)==0-1", true);
        AfterOffice office = CHECKS.office("person a 5;letter l a a 2 0 0 if 1/(year-3)!=9 and 3<=year;");
        CHECKS.same("the year behind that of the division", office.run(0, 0, 1, 1), 4);
    }

    private static void rulesThatDivideByZero() {
        CHECKS.sentence("an E that divides by 0 is 0");
        fee("5+1/0", 0);
        fee("5+0/0", 0);
        fee("5+0*(1/0)", 0);
        fee("5-(3/(2-2))", 0);
        fee("5+1/1", 6);
        fee("5+0/1", 5);
        dies("5+1/0", 0);
        dies("5+1/year", 0);
        dies("5+1/age", 5);
        good("5+1/0", 0);
        good("5+1/(late-late)", 0);
        good("5+2/shelf", 6);
        AfterOffice office = CHECKS.office("person a 5;letter l a a 2 0 0;fee=5-1/(year-3);");
        int[] due = {6, 0, 4};
        for (int i = 0; i < due.length; i++) {
            CHECKS.same("fee in " + (2 + i), office.fee(0, 2 + i), due[i]);
        }
    }

    private static void allOthersAreZero() {
        CHECKS.sentence("in a COND: year; dies: year, age (AGE and YEARS gone by); fee: year, shelf; good: year, shelf, late; all others 0");
        AfterOffice office = CHECKS.office("person a 40;letter l a a 3 9 9 if age+shelf+late==0 and year==7;"
                + "dies=age*1-40+shelf*50+late*50;fee=year+10*shelf+100*age+100*late;good=year+10*shelf+100*age;");
        CHECKS.same("a COND", office.run(0, 0, 1, 1), 7);
        CHECKS.same("dies in 0", office.dies(0, 0), 0);
        CHECKS.same("dies in 59", office.dies(0, 59), 59);
        CHECKS.same("fee in 0", office.fee(0, 0), 30);
        CHECKS.same("fee in 59", office.fee(0, 59), 89);
        CHECKS.same("good in 7", office.gain(0, 1), 37);
        AfterOffice behind = CHECKS.office("person a 40;letter l a a 3 9 9 if age+shelf+late==0;dies=age;fee=shelf;good=7;");
        behind.gain(0, 1);
        CHECKS.same("a COND behind rules", behind.run(0, 0, 1, 0), 1);
        AfterOffice late = CHECKS.office("person a 40;letter l a a 3 9 9 if age+shelf+late==0 and 1<=year;good=late;");
        CHECKS.same("good that is late", late.gain(0, 20), 19);
        CHECKS.same("a COND behind what was late", late.run(0, 0, 1, 0), 1);
        CHECKS.same("CONDS between what is late", late.looks(0, 2), 58);
        CHECKS.same("the oldest", CHECKS.office("person a 99;dies=age-99;").dies(0, 59), 59);
    }

    public static void main(String[] args) {
        letters();
        dying();
        fees();
        clerks();
        barred();
        counts();
        notTold();
        feesAreHeld();
        dyingIsHeld();
        goodIsHeld();
        thirtyTwoBits();
        towardsZero();
        literalsThatDivideByZero();
        rulesThatDivideByZero();
        allOthersAreZero();
        CHECKS.end();
    }
}
