import java.util.ArrayList;
import java.util.Arrays;
import java.util.HashMap;
import java.util.HashSet;
import java.util.List;
import java.util.Map;
import java.util.Set;
import java.util.TreeMap;

/** A second office, written as slowly and plainly as the document's words go, to be set beside the first one. */
final class Oracle {
    static final Set<String> WORDS = Set.of("person", "clerk", "barred", "letter", "if", "proof", "dies", "fee", "good",
            "or", "and", "not", "dead", "read", "year", "age", "shelf", "late");

    static final class Broken extends RuntimeException {
        private static final long serialVersionUID = 1L;
    }

    static final class Fault extends RuntimeException {
        private static final long serialVersionUID = 1L;
        final int number;
        final int place;

        Fault(int number, int place) {
            this.number = number;
            this.place = place;
        }
    }

    static final class Env {
        int year;
        int age;
        int shelf;
        int late;
        Set<String> dead = Set.of();
        Set<String> read = Set.of();
    }

    interface Num {
        int of(Env env);
    }

    interface Cond {
        boolean of(Env env);
    }

    static final class Token {
        final String text;
        final int place;
        final boolean good;

        Token(String text, int place, boolean good) {
            this.text = text;
            this.place = place;
            this.good = good;
        }

        boolean isInt() {
            return good && !text.isEmpty() && Character.isDigit(text.charAt(0));
        }

        boolean isName() {
            return good && !text.isEmpty() && Character.isLetter(text.charAt(0)) && !WORDS.contains(text);
        }
    }

    static final class Mail {
        String name;
        String writer;
        String reader;
        int shelf;
        int laidIn;
        int harm;
        Cond cond = env -> true;
        final Set<String> asks = new HashSet<>();
    }

    static final class Text {
        final List<String> people = new ArrayList<>();
        final List<Integer> ages = new ArrayList<>();
        final List<String> clerks = new ArrayList<>();
        final List<String[]> bars = new ArrayList<>();
        final List<Mail> mails = new ArrayList<>();
        int proof = 10;
        Num dies = env -> 0;
        Num fee = env -> 1;
        Num good = env -> 0;

        Mail mail(String name) {
            for (Mail mail : mails) {
                if (mail.name.equals(name)) {
                    return mail;
                }
            }
            return null;
        }
    }

    /** Reads by descent; a fault of the grammar is thrown, the others are gathered. */
    static final class Reader {
        final List<Token> tokens = new ArrayList<>();
        final TreeMap<Integer, Integer> soft = new TreeMap<>();
        final List<Token> readNames = new ArrayList<>();
        final Text text = new Text();
        final Set<String> told = new HashSet<>();
        Set<String> asks;
        int at;
        int depth;

        Reader(String bytes) {
            int i = 0;
            while (true) {
                while (i < bytes.length() && "\t\n\r ".indexOf(bytes.charAt(i)) >= 0) {
                    i++;
                }
                if (i == bytes.length()) {
                    break;
                }
                int j = i;
                if (bytes.charAt(i) >= 'a' && bytes.charAt(i) <= 'z') {
                    while (j < bytes.length() && bytes.charAt(j) >= 'a' && bytes.charAt(j) <= 'z') {
                        j++;
                    }
                    tokens.add(new Token(bytes.substring(i, j), i, j - i <= 8));
                } else if (bytes.charAt(i) >= '0' && bytes.charAt(i) <= '9') {
                    while (j < bytes.length() && bytes.charAt(j) >= '0' && bytes.charAt(j) <= '9') {
                        j++;
                    }
                    tokens.add(new Token(bytes.substring(i, j), i, j - i <= 4));
                } else {
                    String two = bytes.substring(i, Math.min(bytes.length(), i + 2));
                    boolean isTwo = List.of("==", "!=", "<=").contains(two);
                    j = isTwo ? i + 2 : i + 1;
                    String sign = bytes.substring(i, j);
                    tokens.add(new Token(sign, i, isTwo || ";+-*/<=()".contains(sign)));
                }
                i = j;
            }
            tokens.add(new Token("", bytes.length(), true));
        }

        Token peek() {
            return tokens.get(at);
        }

        boolean sees(String text) {
            return peek().good && peek().text.equals(text);
        }

        Fault syntax() {
            return new Fault(1, peek().place);
        }

        Token go() {
            Token token = peek();
            if (at >= 400) {
                throw new Fault(2, token.place);
            }
            at++;
            return token;
        }

        void want(String text) {
            if (!sees(text)) {
                throw syntax();
            }
            go();
        }

        Token name() {
            if (!peek().isName()) {
                throw syntax();
            }
            return go();
        }

        int integer(int least, int most) {
            if (!peek().isInt()) {
                throw syntax();
            }
            Token token = go();
            int value = Integer.parseInt(token.text);
            if (value < least || value > most) {
                soft.putIfAbsent(token.place, 5);
            }
            return value;
        }

        String fresh() {
            Token token = name();
            if (!told.add(token.text)) {
                soft.putIfAbsent(token.place, 3);
            }
            return token.text;
        }

        String known(List<String> among) {
            Token token = name();
            if (!among.contains(token.text)) {
                soft.putIfAbsent(token.place, 4);
            }
            return token.text;
        }

        void room(int has, int most) {
            if (has == most) {
                throw new Fault(2, peek().place);
            }
        }

        Text all() {
            while (!sees("")) {
                tell();
            }
            for (Token token : readNames) {
                if (text.mail(token.text) == null) {
                    soft.putIfAbsent(token.place, 4);
                }
            }
            if (!soft.isEmpty()) {
                throw new Fault(soft.firstEntry().getValue(), soft.firstKey());
            }
            return text;
        }

        void tell() {
            if (sees("person")) {
                room(text.people.size(), 10);
                go();
                String name = fresh();
                text.ages.add(integer(0, 99));
                text.people.add(name);
            } else if (sees("clerk")) {
                room(text.clerks.size(), 4);
                go();
                text.clerks.add(fresh());
            } else if (sees("barred")) {
                room(text.bars.size(), 12);
                go();
                String clerk = known(text.clerks);
                text.bars.add(new String[] {clerk, known(text.people)});
            } else if (sees("letter")) {
                room(text.mails.size(), 10);
                go();
                mail();
            } else if (sees("proof")) {
                go();
                text.proof = integer(1, 99);
            } else if (sees("dies") || sees("fee") || sees("good")) {
                String rule = go().text;
                want("=");
                Num num = whole(sum());
                switch (rule) {
                    case "dies": text.dies = num; break;
                    case "fee": text.fee = num; break;
                    default: text.good = num; break;
                }
            } else {
                throw syntax();
            }
            want(";");
        }

        Num whole(Num num) {
            return env -> {
                try {
                    return num.of(env);
                } catch (Broken broken) {
                    return 0;
                }
            };
        }

        void mail() {
            Mail mail = new Mail();
            mail.name = fresh();
            mail.writer = known(text.people);
            mail.reader = known(text.people);
            mail.shelf = integer(0, 3);
            mail.laidIn = integer(0, 999);
            mail.harm = integer(0, 99);
            asks = mail.asks;
            text.mails.add(mail);
            if (sees("if")) {
                go();
                mail.cond = any();
            }
        }

        Cond any() {
            Cond left = every();
            if (!sees("or")) {
                return left;
            }
            go();
            Cond right = any();
            return env -> left.of(env) || right.of(env);
        }

        Cond every() {
            Cond left = single();
            if (!sees("and")) {
                return left;
            }
            go();
            Cond right = every();
            return env -> left.of(env) && right.of(env);
        }

        Cond single() {
            if (sees("not")) {
                go();
                Cond one = single();
                return env -> !one.of(env);
            }
            if (sees("dead")) {
                go();
                String who = known(text.people);
                return env -> env.dead.contains(who);
            }
            if (sees("read")) {
                go();
                Token which = name();
                readNames.add(which);
                asks.add(which.text);
                return env -> env.read.contains(which.text);
            }
            Num left = sum();
            String sign = peek().text;
            if (!List.of("==", "!=", "<", "<=").contains(sign)) {
                throw syntax();
            }
            go();
            Num right = sum();
            return env -> {
                try {
                    int a = left.of(env);
                    int b = right.of(env);
                    return sign.equals("==") ? a == b : sign.equals("!=") ? a != b : sign.equals("<") ? a < b : a <= b;
                } catch (Broken broken) {
                    return false;
                }
            };
        }

        Num sum() {
            Num value = product();
            while (sees("+") || sees("-")) {
                boolean plus = go().text.equals("+");
                Num left = value;
                Num right = product();
                value = env -> {
                    int a = left.of(env);
                    int b = right.of(env);
                    return plus ? a + b : a - b;
                };
            }
            return value;
        }

        Num product() {
            Num value = unit();
            while (sees("*") || sees("/")) {
                boolean times = go().text.equals("*");
                Num left = value;
                Num right = unit();
                value = env -> {
                    int a = left.of(env);
                    int b = right.of(env);
                    if (!times && b == 0) {
                        throw new Broken();
                    }
                    return times ? a * b : a / b;
                };
            }
            return value;
        }

        Num unit() {
            if (sees("(")) {
                if (depth == 6) {
                    throw new Fault(2, peek().place);
                }
                depth++;
                go();
                Num inner = sum();
                want(")");
                depth--;
                return inner;
            }
            if (peek().isInt()) {
                int value = Integer.parseInt(go().text);
                return env -> value;
            }
            if (sees("year")) {
                go();
                return env -> env.year;
            }
            if (sees("age")) {
                go();
                return env -> env.age;
            }
            if (sees("shelf")) {
                go();
                return env -> env.shelf;
            }
            if (sees("late")) {
                go();
                return env -> env.late;
            }
            throw syntax();
        }
    }

    /** Facts as rows of kind, year, whom, how much. */
    final List<int[]> facts = new ArrayList<>();
    final Map<Integer, List<int[]>> slots = new HashMap<>();
    StringBuilder tape = new StringBuilder();
    Text text = new Text();
    int place = -1;

    int read() {
        String bytes = tape.toString();
        tape = new StringBuilder();
        try {
            text = new Reader(bytes).all();
            facts.clear();
            slots.clear();
            place = -1;
            return 0;
        } catch (Fault fault) {
            place = fault.place;
            return fault.number;
        }
    }

    static int clamp(int value, int most) {
        return value < 0 ? 0 : value > most ? most : value;
    }

    int people() {
        return text.people.size();
    }

    int letters() {
        return text.mails.size();
    }

    int letter(int letter, int what) {
        Mail mail = text.mails.get(letter);
        switch (what) {
            case 0: return text.people.indexOf(mail.writer);
            case 1: return text.people.indexOf(mail.reader);
            case 2: return mail.shelf;
            case 3: return mail.laidIn;
            default: return mail.harm;
        }
    }

    int dies(int person, int year) {
        Env env = new Env();
        env.year = year;
        env.age = text.ages.get(person) + year;
        return clamp(text.dies.of(env), 100);
    }

    int fee(int letter, int year) {
        Env env = new Env();
        env.year = year;
        env.shelf = text.mails.get(letter).shelf;
        return clamp(text.fee.of(env), 999);
    }

    boolean isBarred(String clerk, String person) {
        for (String[] bar : text.bars) {
            if (bar[0].equals(clerk) && bar[1].equals(person)) {
                return true;
            }
        }
        return false;
    }

    int add(int kind, int year, int whom, int much) {
        if (facts.size() == 60) {
            return -1;
        }
        facts.add(new int[] {kind, year, whom, much});
        return facts.size() - 1;
    }

    int annul(int fact) {
        if (facts.size() == 60 || fact < 0 || fact >= facts.size() || facts.get(fact)[0] == 6) {
            return -1;
        }
        return add(6, -1, fact, -1);
    }

    List<int[]> known(int n) {
        List<int[]> list = new ArrayList<>();
        for (int i = 0; i < n; i++) {
            boolean counts = facts.get(i)[0] != 6;
            for (int j = 0; j < n; j++) {
                if (facts.get(j)[0] == 6 && facts.get(j)[2] == i) {
                    counts = false;
                }
            }
            if (counts) {
                list.add(facts.get(i));
            }
        }
        return list;
    }

    int weighs(int person, int year, int n) {
        int sum = 0;
        for (int[] fact : known(n)) {
            if (fact[0] == 0 && fact[2] == person && fact[1] <= year) {
                sum += fact[3];
            }
        }
        return sum;
    }

    final class Mailbox {
        int state;
        int when = -2;
        int left;
        int date = -1;
    }

    /** A run of years; looks says in which there is a look. */
    final class Run {
        final List<Mailbox> boxes = new ArrayList<>();
        final Set<String> dead = new HashSet<>();
        final Set<String> read = new HashSet<>();
        final Map<String, Integer> weights = new HashMap<>();
        final List<int[]> openings = new ArrayList<>();
        final int[] paid = new int[60];
        int harm;

        Run() {
            for (Mail mail : text.mails) {
                Mailbox box = new Mailbox();
                box.left = mail.laidIn;
                boxes.add(box);
            }
        }

        boolean holds(int letter, int year) {
            Env env = new Env();
            env.year = year;
            env.dead = dead;
            env.read = read;
            return text.mails.get(letter).cond.of(env);
        }

        boolean readerAlive(int letter) {
            return !dead.contains(text.mails.get(letter).reader);
        }

        boolean clerkMay(int letter, int year) {
            int clerks = text.clerks.size();
            return clerks == 0 || !isBarred(text.clerks.get(year % clerks), text.mails.get(letter).reader);
        }

        void end(int letter, int state, int year) {
            boxes.get(letter).state = state;
            boxes.get(letter).when = year;
            if (state == 1 || state == 2) {
                read.add(text.mails.get(letter).name);
            }
        }

        void flood(int shelf, int year) {
            for (int i = 0; i < letters(); i++) {
                if (boxes.get(i).state == 0 && text.mails.get(i).shelf == shelf) {
                    end(i, 4, year);
                }
            }
        }

        void take(int[] fact, boolean truth) {
            int year = fact[1];
            if (fact[0] == 0) {
                String who = text.people.get(fact[2]);
                int sum = weights.merge(who, fact[3], Integer::sum);
                if (!truth && sum >= text.proof) {
                    dead.add(who);
                }
            } else if (fact[0] == 1 && truth) {
                dead.add(text.people.get(fact[2]));
            } else if (fact[0] == 5) {
                flood(fact[2], year);
            } else if (fact[0] != 1) {
                Mailbox box = boxes.get(fact[2]);
                Mail mail = text.mails.get(fact[2]);
                if (fact[0] == 4) {
                    box.date = fact[3];
                } else if (fact[0] == 2 && box.state == 0 && !dead.contains(mail.writer)) {
                    end(fact[2], 3, year);
                } else if (fact[0] == 3 && box.state == 0) {
                    if (!holds(fact[2], year)) {
                        harm += mail.harm;
                    }
                    end(fact[2], 2, year);
                }
            }
        }

        void fees(int year) {
            for (int i = 0; i < letters(); i++) {
                Mailbox box = boxes.get(i);
                if (box.state == 0) {
                    int fee = fee(i, year);
                    if (!dead.contains(text.mails.get(i).writer)) {
                        paid[year] += fee;
                    } else if (box.left < fee) {
                        paid[year] += box.left;
                        box.left = 0;
                        end(i, 5, year);
                    } else {
                        paid[year] += fee;
                        box.left -= fee;
                    }
                }
            }
        }

        void look(int year) {
            boolean again = true;
            while (again) {
                again = false;
                for (int i = 0; i < letters() && !again; i++) {
                    if (boxes.get(i).state == 0 && holds(i, year) && boxes.get(i).date <= year && readerAlive(i)
                            && clerkMay(i, year)) {
                        end(i, 1, year);
                        openings.add(new int[] {i, year});
                        again = true;
                    }
                }
            }
        }

        Run through(int n, boolean[] looks, int last, boolean truth) {
            for (int year = 0; year <= last; year++) {
                for (int[] fact : known(n)) {
                    if (fact[1] == year) {
                        take(fact, truth);
                    }
                }
                fees(year);
                if (looks[year]) {
                    look(year);
                }
            }
            return this;
        }

        int bits(int state) {
            int bits = 0;
            for (int i = 0; i < letters(); i++) {
                bits |= boxes.get(i).state == state ? 1 << i : 0;
            }
            return bits;
        }
    }

    static boolean[] each(int k) {
        boolean[] looks = new boolean[60];
        for (int year = 0; year < 60; year += k) {
            looks[year] = true;
        }
        return looks;
    }

    Run run(int n, int k) {
        return new Run().through(n, each(k), 59, false);
    }

    int run(int letter, int n, int k, int what) {
        Mailbox box = run(n, k).boxes.get(letter);
        return what == 0 ? box.state : what == 1 ? box.when : box.left;
    }

    int opened(int year, int n, int i) {
        List<Integer> list = new ArrayList<>();
        for (int[] opening : run(n, 1).openings) {
            if (opening[1] == year) {
                list.add(opening[0]);
            }
        }
        return i < list.size() ? list.get(i) : -1;
    }

    int why(int letter, int year, int n) {
        Run run = new Run().through(n, each(1), year, false);
        Mailbox box = run.boxes.get(letter);
        if (box.state == 1 || box.state == 2) {
            return 0;
        }
        if (box.state != 0) {
            return 1;
        }
        if (!run.holds(letter, year)) {
            return 2;
        }
        if (box.date > year) {
            return 3;
        }
        if (!run.readerAlive(letter)) {
            return 4;
        }
        if (!run.clerkMay(letter, year)) {
            return 5;
        }
        throw new IllegalStateException("due and not opened");
    }

    int tooSoon(int n) {
        Run run = run(n, 1);
        Run truth = new Run().through(n, each(1), 59, true);
        int bits = 0;
        for (int i = 0; i < letters(); i++) {
            Mailbox a = run.boxes.get(i);
            Mailbox b = truth.boxes.get(i);
            boolean everInTruth = b.state == 1 || b.state == 2;
            if (a.state == 1 && (!everInTruth || b.when > a.when)) {
                bits |= 1 << i;
            }
        }
        return bits;
    }

    int wrong(int year, int n, int what) {
        int bits = 0;
        for (int person = 0; person < people(); person++) {
            boolean dead = weighs(person, year, n) >= text.proof;
            boolean died = false;
            for (int[] fact : known(n)) {
                died |= fact[0] == 1 && fact[2] == person && fact[1] <= year;
            }
            if (what == 0 ? dead && !died : died && !dead) {
                bits |= 1 << person;
            }
        }
        return bits;
    }

    /** Null: it is neither opened by looks in both nor by hand in both. */
    Integer late(Mailbox yearly, Mailbox other) {
        if (yearly.state == 2 && other.state == 2) {
            return 0;
        }
        return yearly.state == 1 && other.state == 1 ? other.when - yearly.when : null;
    }

    int late(int letter, int n, int k) {
        Integer late = late(run(n, 1).boxes.get(letter), run(n, k).boxes.get(letter));
        return late == null ? -2 : late;
    }

    int watch(int n, int l) {
        int best = 0;
        Run yearly = run(n, 1);
        for (int k = 1; k <= 20; k++) {
            Run other = run(n, k);
            boolean good = true;
            for (int i = 0; i < letters(); i++) {
                if (yearly.boxes.get(i).state == 1) {
                    Integer late = late(yearly.boxes.get(i), other.boxes.get(i));
                    good &= late != null && late <= l;
                }
            }
            if (good) {
                best = k;
            }
        }
        return best;
    }

    int gains(Run yearly, Run other) {
        int sum = 0;
        for (int i = 0; i < letters(); i++) {
            if (other.boxes.get(i).state == 1) {
                Integer late = late(yearly.boxes.get(i), other.boxes.get(i));
                Env env = new Env();
                env.year = other.boxes.get(i).when;
                env.shelf = text.mails.get(i).shelf;
                env.late = late == null ? -2 : late;
                sum += clamp(text.good.of(env), 999);
            }
        }
        return sum;
    }

    int gain(int n, int k) {
        return gains(run(n, 1), run(n, k));
    }

    int income(int n, int a, int b) {
        int[] paid = run(n, 1).paid;
        int sum = 0;
        for (int year = a; year <= b; year++) {
            sum += paid[year];
        }
        return sum;
    }

    int next(int year, int n) {
        Run run = run(n, 1);
        for (int later = year + 1; later < 60; later++) {
            for (Mailbox box : run.boxes) {
                if (box.state == 1 && box.when == later) {
                    return later;
                }
            }
        }
        return -2;
    }

    int[] looks(int n) {
        Run yearly = run(n, 1);
        int[] best = {0, 0, -1};
        for (int a = 0; a < 60; a++) {
            for (int b = a + 1; b < 60; b++) {
                boolean[] looks = new boolean[60];
                looks[a] = true;
                looks[b] = true;
                int sum = gains(yearly, new Run().through(n, looks, 59, false));
                if (sum > best[2]) {
                    best = new int[] {a, b, sum};
                }
            }
        }
        return best;
    }

    Set<String> namesOf(int bits, boolean ofPeople) {
        Set<String> names = new HashSet<>();
        for (int i = 0; i < 10; i++) {
            if ((bits >> i & 1) == 1) {
                names.add(ofPeople ? text.people.get(i) : text.mails.get(i).name);
            }
        }
        return names;
    }

    boolean holds(int letter, int year, int dead, int been) {
        Env env = new Env();
        env.year = year;
        env.dead = namesOf(dead, true);
        env.read = namesOf(been, false);
        return text.mails.get(letter).cond.of(env);
    }

    /** Null: more than three. */
    int[] need(int letter, int year, int dead, int been) {
        int[] best = null;
        for (int d = 0; d < 1 << people(); d++) {
            for (int r = 0; r < 1 << letters(); r++) {
                int deaths = Integer.bitCount(d);
                int total = deaths + Integer.bitCount(r);
                if (total > 3 || (d & dead) != 0 || (r & been) != 0 || !holds(letter, year, dead | d, been | r)) {
                    continue;
                }
                int[] one = {total, deaths, d, r};
                if (best == null || Arrays.compare(one, best) < 0) {
                    best = one;
                }
            }
        }
        return best == null ? null : new int[] {best[0], best[2], best[3]};
    }

    int asks(int letter) {
        int bits = 0;
        for (int i = 0; i < letters(); i++) {
            if (text.mails.get(letter).asks.contains(text.mails.get(i).name)) {
                bits |= 1 << i;
            }
        }
        return bits;
    }

    /** Whether from comes to to by one ask or more, without the burnt. */
    boolean comes(int from, int to, int burnt) {
        Set<Integer> seen = new HashSet<>();
        List<Integer> todo = new ArrayList<>(List.of(from));
        while (!todo.isEmpty()) {
            int one = todo.remove(todo.size() - 1);
            for (int i = 0; i < letters(); i++) {
                if ((asks(one) >> i & 1) == 1 && (burnt >> i & 1) == 0 && seen.add(i)) {
                    todo.add(i);
                }
            }
        }
        return seen.contains(to);
    }

    int ring(int letter, int burnt) {
        int bits = 0;
        for (int i = 0; i < letters(); i++) {
            if (((burnt >> i | burnt >> letter) & 1) == 0 && comes(letter, i, burnt) && comes(i, letter, burnt)) {
                bits |= 1 << i;
            }
        }
        return bits;
    }

    int rings() {
        Set<Integer> all = new HashSet<>();
        for (int i = 0; i < letters(); i++) {
            all.add(ring(i, 0));
        }
        all.remove(0);
        return all.size();
    }

    int burn() {
        int best = -1;
        for (int burnt = 0; burnt < 1 << letters(); burnt++) {
            boolean none = best < 0 || Integer.bitCount(burnt) < Integer.bitCount(best);
            for (int i = 0; i < letters() && none; i++) {
                none = ring(i, burnt) == 0;
            }
            if (none) {
                best = burnt;
            }
        }
        return best;
    }

    int look(int year, int dead, int been) {
        int clerks = text.clerks.size();
        for (int i = 0; i < letters(); i++) {
            Mail mail = text.mails.get(i);
            boolean may = clerks == 0 || !isBarred(text.clerks.get(year % clerks), mail.reader);
            if ((been >> i & 1) == 0 && may && !namesOf(dead, true).contains(mail.reader)
                    && holds(i, year, dead, been)) {
                return look(year, dead, been | 1 << i);
            }
        }
        return been;
    }

    /** First, last, sure; by sets of what can be at a year's end. */
    int[] future(int letter, int year, int dead, int been) {
        Set<List<Integer>> now = new HashSet<>();
        now.add(List.of(dead, been));
        int[] answer = {-2, -2, 1};
        for (int y = year; y < 60; y++) {
            Set<List<Integer>> then = new HashSet<>();
            for (List<Integer> one : now) {
                for (int person = -1; person < people(); person++) {
                    int dying = person < 0 ? one.get(0) : one.get(0) | 1 << person;
                    int after = look(y, dying, one.get(1));
                    if ((after >> letter & 1) == 1) {
                        answer[0] = answer[0] < 0 ? y : answer[0];
                        answer[1] = y;
                    } else {
                        then.add(List.of(dying, after));
                    }
                }
            }
            now = then;
        }
        answer[2] = now.isEmpty() ? 1 : 0;
        return answer;
    }

    long lives(int person, int year, int n) {
        return n == 0 ? 1 : (100 - dies(person, year)) * lives(person, year + 1, n - 1);
    }

    long odds(int letter, int year, int n, int dead, int been) {
        if (n == 0) {
            return been >> letter & 1;
        }
        long sum = 0;
        for (int dying = 0; dying < 1 << people(); dying++) {
            long ways = 1;
            for (int person = 0; person < people(); person++) {
                boolean was = (dead >> person & 1) == 1;
                boolean is = (dying >> person & 1) == 1;
                int dies = dies(person, year);
                ways *= was ? is ? 100 : 0 : is ? dies : 100 - dies;
            }
            if (ways > 0) {
                sum += ways * odds(letter, year + 1, n - 1, dying, look(year, dying, been));
            }
        }
        return sum;
    }

    static int lot(int seed, int which, int n) {
        long mask = 0xffffffffL;
        long h = seed & mask;
        for (long it : new long[] {18, which}) {
            h = ((h ^ it) * 1103515245L + 12345L) & mask;
            h = h ^ h >> 15;
        }
        return (int) ((h >> 1) % n);
    }

    Run life(int seed, int w) {
        Run run = new Run();
        for (int year = 0; year < 60; year++) {
            for (int person = 0; person < people(); person++) {
                if (lot(seed, 100 * year + person, 100) < dies(person, year)) {
                    run.dead.add(text.people.get(person));
                }
            }
            for (int shelf = 0; shelf < 4; shelf++) {
                if (lot(seed, 100 * year + 50 + shelf, 100) < w) {
                    run.flood(shelf, year);
                }
            }
            run.fees(year);
            run.look(year);
        }
        return run;
    }

    int life(int seed, int w, int what) {
        Run run = life(seed, w);
        switch (what) {
            case 0: return run.bits(1);
            case 1: return run.bits(4);
            case 2: return run.bits(5);
            case 3:
                int bits = 0;
                for (int person = 0; person < people(); person++) {
                    bits |= run.dead.contains(text.people.get(person)) ? 0 : 1 << person;
                }
                return bits;
            default: return Arrays.stream(run.paid).sum();
        }
    }

    int chance(int letter, int seed, int m, int w) {
        int sum = 0;
        for (int i = 0; i < m; i++) {
            sum += life(seed + i, w).boxes.get(letter).state == 1 ? 1 : 0;
        }
        return sum;
    }
}
