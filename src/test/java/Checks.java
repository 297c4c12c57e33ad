/** Counts wrong answers and says them; feeds texts of any length. */
final class Checks {
    private final String name;
    private String sentence = "";
    private int checked;
    private int wrong;

    Checks(String name) {
        this.name = name;
    }

    /** What is looked at from now on stands in these words of the document. */
    void sentence(String words) {
        sentence = words;
    }

    void same(String what, long got, long want) {
        checked++;
        if (got != want) {
            tell(what + " answered " + got + ", due is " + want);
        }
    }

    void same(String what, boolean got, boolean want) {
        same(what, got ? 1 : 0, want ? 1 : 0);
    }

    void same(String what, String got, String want) {
        checked++;
        if (!got.equals(want)) {
            tell(what + "\n  is  " + got + "\n  due " + want);
        }
    }

    private void tell(String fault) {
        wrong++;
        if (!sentence.isEmpty()) {
            System.out.println(name + " on '" + sentence + "':");
        }
        String told = fault.length() > 1900 ? "(..)" + fault.substring(fault.length() - 1900) : fault;
        System.out.println(name + ": " + told);
    }

    void none(String what, long got) {
        same(what, got, AfterOffice.NONE);
    }

    void end() {
        System.out.println(name + ": " + checked + " answers looked at, " + wrong + " wrong");
        if (wrong != 0) {
            System.exit(1);
        }
    }

    /** A new office finds this fault in a text, or none (0, at -1). */
    void fault(String text, int number, int place) {
        AfterOffice office = new AfterOffice();
        same("read() of " + text, read(office, text), number);
        same("place() of " + text, office.place(), place);
        same("bytes left", office.count(6), 0);
    }

    void good(String text) {
        fault(text, 0, -1);
    }

    /** The fault stands at the first sign behind the bar. */
    void at(int number, String marked) {
        int bar = marked.indexOf('|');
        fault(marked.substring(0, bar) + marked.substring(bar + 1), number, bar);
    }

    /** Lays a text behind the tape; the filling of the last twenty goes back. */
    static void lay(AfterOffice office, String text) {
        for (int i = 0; i < text.length(); i += 20) {
            int[] five = new int[5];
            for (int j = 0; j < 20; j++) {
                int sign = i + j < text.length() ? text.charAt(i + j) : ' ';
                five[j / 4] = five[j / 4] << 8 | sign & 255;
            }
            office.feed(five[0], five[1], five[2], five[3], five[4]);
        }
        office.back((20 - text.length() % 20) % 20);
    }

    static int read(AfterOffice office, String text) {
        lay(office, text);
        return office.read();
    }

    /** An office that has read a text, which must be without fault. */
    AfterOffice office(String text) {
        AfterOffice office = new AfterOffice();
        same("read() of " + text, read(office, text), 0);
        return office;
    }
}
