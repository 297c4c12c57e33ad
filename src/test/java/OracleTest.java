import java.util.ArrayList;
import java.util.List;
import java.util.Random;

/** Offices of made-up texts and facts, each answer set beside the slow office's. */
public final class OracleTest {
    private static final Checks CHECKS = new Checks("OracleTest");

    private final Random random;
    private final AfterOffice office = new AfterOffice();
    private final Oracle oracle = new Oracle();
    private String label;

    private OracleTest(int seed) {
        random = new Random(seed);
        label = "seed " + seed;
    }

    private int upTo(int most) {
        return random.nextInt(most + 1);
    }

    private boolean oneIn(int many) {
        return random.nextInt(many) == 0;
    }

    private <T> T oneOf(List<T> list) {
        return list.get(random.nextInt(list.size()));
    }

    private String expression(List<String> vars, int depth) {
        StringBuilder s = new StringBuilder(unit(vars, depth));
        for (int i = upTo(2); i > 0; i--) {
            s.append(oneOf(List.of(" + ", "-", "*", " / "))).append(unit(vars, depth));
        }
        return s.toString();
    }

    private String unit(List<String> vars, int depth) {
        if (depth > 0 && oneIn(4)) {
            return "(" + expression(vars, depth - 1) + ")";
        }
        return oneIn(2) ? oneOf(vars) : String.valueOf(oneIn(9) ? upTo(9999) : oneIn(3) ? upTo(60) : upTo(5));
    }

    private String literal(List<String> people, List<String> letters) {
        String not = oneIn(4) ? "not " : oneIn(30) ? "not not " : "";
        switch (upTo(4)) {
            case 0:
            case 1: return not + "dead " + oneOf(people);
            case 2:
            case 3: return not + "read " + oneOf(letters);
            default:
                return not + expression(List.of("year", "year", "year", "age", "shelf", "late"), 2)
                        + oneOf(List.of("==", "!=", "<", "<=")) + expression(List.of("year"), 1);
        }
    }

    private String condition(List<String> people, List<String> letters) {
        StringBuilder s = new StringBuilder(literal(people, letters));
        if (oneIn(2)) {
            // Letters that wait for a year or a death show what later looks miss.
            String start = oneIn(2) ? upTo(40) + "<=year and " : "dead " + oneOf(people) + " and ";
            s.insert(0, start);
        }
        for (int i = upTo(3); i > 0; i--) {
            s.append(oneIn(2) ? " and " : " or ").append(literal(people, letters));
        }
        return s.toString();
    }

    private String text(int mostPeople, int mostLetters) {
        List<String> people = new ArrayList<>();
        List<String> letters = new ArrayList<>();
        List<String> clerks = new ArrayList<>();
        StringBuilder s = new StringBuilder();
        for (int i = 1 + upTo(mostPeople - 1); i > 0; i--) {
            people.add("p" + (char) ('a' + i));
            s.append("person ").append(people.get(people.size() - 1)).append(' ').append(upTo(99)).append(';');
        }
        for (int i = upTo(3); i > 0; i--) {
            clerks.add("c" + (char) ('a' + i));
            s.append("clerk ").append(clerks.get(clerks.size() - 1)).append(";\n");
        }
        for (int i = clerks.isEmpty() ? 0 : upTo(4); i > 0; i--) {
            s.append("barred ").append(oneOf(clerks)).append(' ').append(oneOf(people)).append(';');
        }
        int many = 1 + upTo(mostLetters - 1);
        for (int i = 0; i < many; i++) {
            letters.add("l" + (char) ('a' + i));
        }
        for (String letter : letters) {
            s.append("letter ").append(letter).append(' ').append(oneOf(people)).append(' ').append(oneOf(people));
            s.append(' ').append(upTo(3)).append(' ').append(oneIn(3) ? upTo(999) : upTo(30)).append(' ');
            s.append(upTo(99));
            if (!oneIn(5)) {
                s.append(" if ").append(condition(people, letters));
            }
            s.append(';');
        }
        if (oneIn(2)) {
            s.append("proof ").append(1 + upTo(30)).append(';');
        }
        if (!oneIn(5)) {
            s.append("dies = ").append(oneIn(2) ? "age / 9" : expression(List.of("year", "age", "shelf"), 2)).append(';');
        }
        if (!oneIn(3)) {
            String fee = oneIn(2) ? oneOf(List.of("shelf", "year/20", "0", "2-shelf/2"))
                    : expression(List.of("year", "shelf", "age"), 2);
            s.append("fee=").append(fee).append(';');
        }
        if (!oneIn(5)) {
            s.append("good = ").append(oneIn(2) ? "50 - year + shelf - late * 3"
                    : expression(List.of("year", "shelf", "late", "age"), 2)).append(';');
        }
        return s.toString();
    }

    /* One token is put in place of another, so that faults behind the syntax come too. */
    private String exchanged(String text) {
        List<String> ints = List.of("0", "3", "4", "99", "100", "999", "1000", "9999", "12345");
        List<String> names = List.of("pb", "pc", "la", "lb", "cb", "zz", "person", "abcdefgh", "abcdefghi");
        List<int[]> spots = new ArrayList<>();
        for (int i = 0; i < text.length(); i++) {
            if (Character.isLetterOrDigit(text.charAt(i)) && (i == 0 || !Character.isLetterOrDigit(text.charAt(i - 1)))) {
                int end = i;
                while (end < text.length() && Character.isLetterOrDigit(text.charAt(end))) {
                    end++;
                }
                spots.add(new int[] {i, end});
            }
        }
        int[] spot = oneOf(spots);
        String old = text.substring(spot[0], spot[1]);
        String now = Character.isDigit(old.charAt(0)) ? oneOf(ints) : Oracle.WORDS.contains(old) ? old : oneOf(names);
        return text.substring(0, spot[0]) + now + text.substring(spot[1]);
    }

    private String crowded(String text) {
        StringBuilder s = new StringBuilder(text);
        int kind = upTo(4);
        for (int i = upTo(80); i > 0 && s.length() < 1850; i--) {
            String name = String.valueOf((char) ('a' + upTo(25))) + (char) ('a' + upTo(25)) + (char) ('a' + upTo(25));
            switch (kind) {
                case 0: s.append("person ").append(name).append(" 1;"); break;
                case 1: s.append("clerk ").append(name).append(';'); break;
                case 2: s.append("barred ca pb;"); break;
                case 3: s.append("letter ").append(name).append(" pb pb 0 0 0;"); break;
                default: s.append("fee=1+1+1+1;"); break;
            }
        }
        return oneIn(2) ? exchanged(s.toString()) : s.toString();
    }

    private String spoilt(String text) {
        if (oneIn(3)) {
            return oneIn(2) ? exchanged(text) : exchanged(exchanged(text));
        }
        if (oneIn(3)) {
            return crowded(text);
        }
        StringBuilder s = new StringBuilder(text);
        List<String> bits = List.of("(", ")", ";", "=", "==", "<", "<=", "!", "if", " or ", " and ", " not ", "dead ",
                "read ", "year", "pa", "la", "ca", "zz", "abcdefghi", "12345", "1000", "99", "100", ".", "person ",
                "letter ", "\t", "((((((((", "clerk ca;", "person pb 3;", "proof 0;", "fee=", "A", "\u00e9", "0");
        for (int i = upTo(2); i >= 0 && s.length() > 0; i--) {
            int at = random.nextInt(s.length());
            switch (upTo(3)) {
                case 0: s.deleteCharAt(at); break;
                case 1: s.insert(at, oneOf(bits)); break;
                case 2: s.delete(at, Math.min(s.length(), at + 1 + upTo(8))); break;
                default: s.replace(at, at + 1, oneOf(bits)); break;
            }
        }
        return s.toString();
    }

    private void same(String call, long got, long want) {
        CHECKS.same(label + ": " + call, got, want);
    }

    private boolean tell(String text) {
        String fits = text.length() > 1900 ? text.substring(0, 1900) : text;
        Checks.lay(office, fits);
        oracle.tape.append(fits);
        int due = oracle.read();
        same("read() of " + fits, office.read(), due);
        same("place() of " + fits, office.place(), oracle.place);
        return due == 0;
    }

    private void tellFacts(int many) {
        for (int i = 0; i < many; i++) {
            int year = oneIn(3) ? upTo(59) : upTo(20);
            int person = upTo(oracle.people() - 1);
            int letter = upTo(oracle.letters() - 1);
            int number;
            int due;
            switch (upTo(10)) {
                case 0:
                    number = office.death(year, person);
                    due = oracle.add(1, year, person, -1);
                    break;
                case 1:
                    number = office.takeBack(year, letter);
                    due = oracle.add(2, year, letter, -1);
                    break;
                case 2:
                    number = office.early(year, letter);
                    due = oracle.add(3, year, letter, -1);
                    break;
                case 3:
                    int x = upTo(59);
                    number = office.date(year, letter, x);
                    due = oracle.add(4, year, letter, x);
                    break;
                case 4:
                    int shelf = upTo(3);
                    int wet = 20 + upTo(39);
                    number = office.flood(wet, shelf);
                    due = oracle.add(5, wet, shelf, -1);
                    break;
                case 5:
                    int fact = upTo(i);
                    number = office.annul(fact);
                    due = oracle.annul(fact);
                    break;
                default:
                    int weight = 1 + upTo(19);
                    number = office.rumour(year, person, weight);
                    due = oracle.add(0, year, person, weight);
                    break;
            }
            same("a fact", number, due);
        }
    }

    private void askBook() {
        for (int i = 0; i < oracle.letters(); i++) {
            for (int what = 0; what < 5; what++) {
                same("letter", office.letter(i, what), oracle.letter(i, what));
            }
            int year = upTo(59);
            same("fee(" + i + ", " + year + ")", office.fee(i, year), oracle.fee(i, year));
            same("asks", office.asks(i), oracle.asks(i));
            same("ring", office.ring(i), oracle.ring(i, 0));
        }
        for (int i = 0; i < oracle.people(); i++) {
            int year = upTo(50);
            int n = upTo(8);
            same("dies", office.dies(i, year), oracle.dies(i, year));
            same("lives", office.lives(i, year, n), oracle.lives(i, year, n));
        }
        same("rings", office.rings(), oracle.rings());
        same("burn", office.burn(), oracle.burn());
        same("count", office.count(3), oracle.text.bars.size());
        same("count", office.count(4), oracle.text.proof);
        same("count", office.count(5), oracle.facts.size());
    }

    private void askRuns() {
        int n = oneIn(2) ? oracle.facts.size() : upTo(oracle.facts.size());
        int k = 1 + upTo(19);
        for (int i = 0; i < oracle.letters(); i++) {
            for (int what = 0; what < 3; what++) {
                same("run", office.run(i, n, k, what), oracle.run(i, n, k, what));
                same("run", office.run(i, n, 1, what), oracle.run(i, n, 1, what));
            }
            same("late", office.late(i, n, k), oracle.late(i, n, k));
            for (int year : new int[] {0, upTo(20), upTo(59), 59}) {
                same("why", office.why(i, year, n), oracle.why(i, year, n));
            }
        }
        for (int i = 0; i < oracle.people(); i++) {
            int year = upTo(59);
            same("weighs", office.weighs(i, year, n), oracle.weighs(i, year, n));
        }
        for (int year : new int[] {0, upTo(20), upTo(59)}) {
            int i = upTo(3);
            same("opened", office.opened(year, n, i), oracle.opened(year, n, i));
            same("wrong", office.wrong(year, n, 0), oracle.wrong(year, n, 0));
            same("wrong", office.wrong(year, n, 1), oracle.wrong(year, n, 1));
            same("next", office.next(year, n), oracle.next(year, n));
            int b = year + random.nextInt(60 - year);
            same("income", office.income(n, year, b), oracle.income(n, year, b));
        }
        same("harm", office.harm(n), oracle.run(n, 1).harm);
        same("tooSoon", office.tooSoon(n), oracle.tooSoon(n));
        int l = upTo(12);
        same("watch", office.watch(n, l), oracle.watch(n, l));
        same("gain", office.gain(n, k), oracle.gain(n, k));
        if (oneIn(10)) {
            int[] looks = oracle.looks(n);
            for (int what = 0; what < 3; what++) {
                same("looks", office.looks(n, what), looks[what]);
            }
        }
    }

    private void askWays() {
        int letter = upTo(oracle.letters() - 1);
        int year = upTo(59);
        int dead = random.nextInt(1 << oracle.people()) & random.nextInt();
        int been = random.nextInt(1 << oracle.letters()) & random.nextInt();
        dead &= (1 << oracle.people()) - 1;
        if (oracle.people() + oracle.letters() < 12 || oneIn(20)) {
            int[] need = oracle.need(letter, year, dead, been);
            for (int what = 0; what < 3; what++) {
                same("need", office.need(letter, year, dead, been, what), need == null ? -2 : need[what]);
            }
        }
        been &= ~(1 << letter);
        if (oracle.people() <= 5 && oracle.letters() <= 6) {
            int[] future = oracle.future(letter, year, dead, been);
            for (int what = 0; what < 3; what++) {
                same("future", office.future(letter, year, dead, been, what), future[what]);
            }
        } else {
            same("future", office.future(letter, year, dead, been, 0), -2);
        }
        int n = year == 59 ? 1 : 1 + upTo(1);
        same("odds", office.odds(letter, year, n), oracle.people() > 4 ? -2 : oracle.odds(letter, year, n, 0, 0));
        int seed = random.nextInt();
        int w = oneIn(3) ? 0 : upTo(oneIn(3) ? 100 : 5);
        for (int what = 0; what < 5; what++) {
            same("life", office.life(seed, w, what), oracle.life(seed, w, what));
        }
        if (oneIn(5)) {
            int m = 1 + upTo(49);
            same("chance", office.chance(letter, seed, m, w), oracle.chance(letter, seed, m, w));
        }
    }

    private void goThrough() {
        boolean small = random.nextBoolean();
        String text = small ? text(4, 5) : text(10, 10);
        for (int i = upTo(3); i > 0; i--) {
            if (tell(spoilt(text)) && oracle.letters() > 0 && oracle.people() > 0) {
                tellFacts(upTo(20));
                askBook();
                askRuns();
                askWays();
            }
        }
        if (!tell(text)) {
            return;
        }
        label = label + " " + text;
        tellFacts(upTo(oneIn(3) ? 61 : 20));
        askBook();
        askRuns();
        askWays();
    }

    public static void main(String[] args) {
        int seeds = args.length > 1 ? Integer.parseInt(args[1]) : 1500;
        int from = args.length > 2 ? Integer.parseInt(args[2]) : 0;
        for (int seed = from; seed < from + seeds; seed++) {
            new OracleTest(seed).goThrough();
        }
        CHECKS.end();
    }
}
