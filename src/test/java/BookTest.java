/** Promises 6 to 10: what was told, and what the rules and conditions say. */
public final class BookTest {
    private static final Checks CHECKS = new Checks("BookTest");

    private static void told() {
        AfterOffice office = CHECKS.office("person a 40; person b 99; person c 0; clerk x; clerk y; clerk z; barred y b;"
                + "barred y a; letter l a b 3 999 99; letter m c a 0 0 0 if dead a; dies = age/10; fee=shelf*2-year+5;");
        int[][] letters = {{0, 1, 3, 999, 99}, {2, 0, 0, 0, 0}};
        for (int i = 0; i < 2; i++) {
            for (int what = 0; what < 5; what++) {
                CHECKS.same("letter(" + i + ", " + what + ")", office.letter(i, what), letters[i][what]);
            }
        }
        CHECKS.none("letter(0, 5)", office.letter(0, 5));
        CHECKS.none("letter(0, -1)", office.letter(0, -1));
        CHECKS.none("letter(2, 0)", office.letter(2, 0));
        CHECKS.none("letter(-1, 0)", office.letter(-1, 0));
        dies(office);
        fees(office);
        clerks(office);
    }

    private static void dies(AfterOffice office) {
        CHECKS.same("dies(0, 0)", office.dies(0, 0), 4);
        CHECKS.same("dies(0, 19)", office.dies(0, 19), 5);
        CHECKS.same("dies(0, 59)", office.dies(0, 59), 9);
        CHECKS.same("dies(1, 1)", office.dies(1, 1), 10);
        CHECKS.same("dies(2, 9)", office.dies(2, 9), 0);
        CHECKS.none("dies(3, 0)", office.dies(3, 0));
        CHECKS.none("dies(-1, 0)", office.dies(-1, 0));
        CHECKS.none("dies(0, 60)", office.dies(0, 60));
        CHECKS.none("dies(0, -1)", office.dies(0, -1));
    }

    private static void fees(AfterOffice office) {
        CHECKS.same("fee(0, 0)", office.fee(0, 0), 11);
        CHECKS.same("fee(0, 11)", office.fee(0, 11), 0);
        CHECKS.same("fee(0, 12)", office.fee(0, 12), 0);
        CHECKS.same("fee(1, 0)", office.fee(1, 0), 5);
        CHECKS.same("fee(1, 59)", office.fee(1, 59), 0);
        CHECKS.none("fee(2, 0)", office.fee(2, 0));
        CHECKS.none("fee(-1, 0)", office.fee(-1, 0));
        CHECKS.none("fee(0, 60)", office.fee(0, 60));
        CHECKS.none("fee(0, -1)", office.fee(0, -1));
    }

    private static void clerks(AfterOffice office) {
        int[] years = {0, 1, 2, 3, 59};
        int[] due = {0, 1, 2, 0, 2};
        for (int i = 0; i < years.length; i++) {
            CHECKS.same("clerk(" + years[i] + ")", office.clerk(years[i]), due[i]);
        }
        CHECKS.none("clerk(60)", office.clerk(60));
        CHECKS.none("clerk(-1)", office.clerk(-1));
        for (int clerk = 0; clerk < 3; clerk++) {
            for (int person = 0; person < 3; person++) {
                int is = clerk == 1 && person < 2 ? 1 : 0;
                CHECKS.same("barred(" + clerk + ", " + person + ")", office.barred(clerk, person), is);
            }
        }
        CHECKS.none("barred(3, 0)", office.barred(3, 0));
        CHECKS.none("barred(-1, 0)", office.barred(-1, 0));
        CHECKS.none("barred(0, 3)", office.barred(0, 3));
        CHECKS.none("barred(0, -1)", office.barred(0, -1));
        AfterOffice empty = CHECKS.office("person a 1;");
        CHECKS.same("clerk(0) without clerks", empty.clerk(0), -2);
        CHECKS.none("clerk(60) without clerks", empty.clerk(60));
        CHECKS.none("barred(0, 0) without clerks", empty.barred(0, 0));
    }

    private static void fee(String rule, int year, int due) {
        AfterOffice office = CHECKS.office("person a 5; letter l a a 2 0 0; fee=" + rule + ";");
        CHECKS.same("fee " + rule + " in " + year, office.fee(0, year), due);
    }

    private static void dying(String rule, int year, int due) {
        AfterOffice office = CHECKS.office("person a 5; dies=" + rule + ";");
        CHECKS.same("dies " + rule + " in " + year, office.dies(0, year), due);
    }

    private static void rules() {
        fee("1+2*3", 0, 7);
        fee("2*3+1", 0, 7);
        fee("(1+2)*3", 0, 9);
        fee("9-2-3", 0, 4);
        fee("9-(2-3)", 0, 10);
        fee("100/2/5", 0, 10);
        fee("100/(20/5)", 0, 25);
        fee("7-6/2*3+1-2*2", 0, 0);
        fee("17-6/2*3+1-2*2", 0, 5);
        fee("7/2", 0, 3);
        fee("50+(0-7)/2", 0, 47);
        fee("50+7/(0-2)", 0, 47);
        fee("999", 0, 999);
        fee("1000", 0, 999);
        fee("0-1", 0, 0);
        fee("9999*9999*9999", 0, 0);
        fee("0-9999*9999*9999", 0, 999);
        fee("(0-9999*9999*9999)/(2000*1000)", 0, 513);
        fee("(2*1024*1024*1024)/(0-1)", 0, 0);
        fee("(2*1024*1024*1024)/(0-1)-1", 0, 999);
        fee("5+1/0", 0, 0);
        fee("7+0*(1/0)", 0, 0);
        fee("5-1/(year-3)", 2, 6);
        fee("5-1/(year-3)", 3, 0);
        fee("5-1/(year-3)", 4, 4);
        fee("age+late+shelf*10+year", 7, 27);
        fee("1; fee=2", 0, 2);
        fee("1/0; fee=2", 0, 2);
        dying("shelf+late+age+year", 7, 19);
        dying("year-5", 4, 0);
        dying("year*50", 2, 100);
        dying("year*51", 2, 100);
        dying("7/shelf", 2, 0);
        dying("1; dies=3", 0, 3);
        AfterOffice office = CHECKS.office("person a 5; letter l a a 2 0 0;");
        CHECKS.same("fee not told", office.fee(0, 30), 1);
        CHECKS.same("dies not told", office.dies(0, 30), 0);
    }

    /* Whether a condition holds shows in the first look. */
    private static void holds(String condition, boolean due) {
        AfterOffice office = CHECKS.office("person a 5; letter l a a 2 0 0 if " + condition + ";");
        CHECKS.same("condition " + condition, office.opened(0, 0, 0), due ? 0 : -1);
    }

    private static void conditions() {
        holds("1==1", true);
        holds("1!=1", false);
        holds("1<1", false);
        holds("1<2", true);
        holds("1<=1", true);
        holds("2<=1", false);
        holds("0-1<0", true);
        holds("2*1024*1024*1024<0", true);
        holds("age+shelf+late==0", true);
        holds("year==0", true);
        holds("1/0==1", false);
        holds("1/0!=5", false);
        holds("0<=1/0", false);
        holds("1/0==1/0", false);
        holds("not 1/0==1", true);
        holds("not not 1/0==1", false);
        holds("not not not 1/0==1", true);
        holds("1/0==0 or 1==1", true);
        holds("1==1 and not 0/0<1", true);
        holds("1==1 and 2/(1/0)==0", false);
        holds("1==1 or 1==1 and 1==2", true);
        holds("1==2 and 1==2 or 1==1", true);
        holds("1==2 and (1)==2 or 1==2 and 1==1 or 2==2 and 3==3", true);
        holds("1==2 or 1==1 and 1==2 or 1==3", false);
        holds("not 1==2 and 1==2", false);
        holds("not 1==2 or 1==2", true);
        holds("dead a", false);
        holds("not dead a", true);
        holds("read l", false);
        holds("not read l", true);
        holds("1+1==2 and 2*3==7-1", true);
        AfterOffice office = CHECKS.office("person a 5; letter l a a 2 9 0 if year*2==10;");
        CHECKS.same("the year of a condition", office.run(0, 0, 1, 1), 5);
    }

    public static void main(String[] args) {
        told();
        rules();
        conditions();
        CHECKS.end();
    }
}
