/** Counts wrong answers and says them; feeds texts of any length. */
final class Checks {
    private final String name;
    private int checked;
    private int wrong;

    Checks(String name) {
        this.name = name;
    }

    void same(String what, long got, long want) {
        checked++;
        if (got != want) {
            wrong++;
            String told = what.length() > 900 ? "(..)" + what.substring(what.length() - 900) : what;
            System.out.println(name + ": " + told + " answered " + got + ", due is " + want);
        }
    }

    void same(String what, boolean got, boolean want) {
        same(what, got ? 1 : 0, want ? 1 : 0);
    }

    void none(String what, long got) {
        same(what, got, AfterOffice.NONE);
    }

    void end() {
        System.out.println(name + ": " + checked + " answers looked at, " + wrong + " wrong");
        if (wrong != 0) {
            System.exit(1);
        }
    }

    /** Lays a text behind the tape; the filling of the last twenty goes back. */
    static void lay(AfterOffice office, String text) {
        for (int i = 0; i < text.length(); i += 20) {
            int[] five = new int[5];
            for (int j = 0; j < 20; j++) {
                int sign = i + j < text.length() ? text.charAt(i + j) : ' ';
                five[j / 4] = five[j / 4] << 8 | sign & 255;
            }
            office.feed(five[0], five[1], five[2], five[3], five[4]);
        }
        office.back((20 - text.length() % 20) % 20);
    }

    static int read(AfterOffice office, String text) {
        lay(office, text);
        return office.read();
    }

    /** An office that has read a text, which must be without fault. */
    AfterOffice office(String text) {
        AfterOffice office = new AfterOffice();
        same("read() of " + text, read(office, text), 0);
        return office;
    }
}
