/**
 * A press with texts instead of numbers, that prints every answer that is not the one that is due. It counts its
 * calls, since nothing is promised beyond the 512th one.
 */
final class Desk {
    private static final int MOST_CALLS = 512;
    private static final char MARK = '^';

    private static int wrong = 0;
    private static int asked = 0;

    private final TreePress press = new TreePress();
    private int calls = 0;

    private TreePress called() {
        calls++;
        if (calls == MOST_CALLS + 1) {
            wrong++;
            System.out.println("a test asks one object more than " + MOST_CALLS + " times");
        }
        return press;
    }

    int feed(int a, int b, int c, int d, int e) {
        return called().feed(a, b, c, d, e);
    }

    int read(int n) {
        return called().read(n);
    }

    int place() {
        return called().place();
    }

    int node(int k, int what) {
        return called().node(k, what);
    }

    int name(int k, int i) {
        return called().name(k, i);
    }

    int string(int k, int i) {
        return called().string(k, i);
    }

    int findings() {
        return called().findings();
    }

    int finding(int i, int what) {
        return called().finding(i, what);
    }

    int select(int k, int n) {
        return called().select(k, n);
    }

    int told(int i) {
        return called().told(i);
    }

    int set(int width, int height) {
        return called().set(width, height);
    }

    int line(int i, int what) {
        return called().line(i, what);
    }

    int at(int i, int k) {
        return called().at(i, k);
    }

    int count(int what) {
        return called().count(what);
    }

    /** Brings a text onto THE TAPE, with blanks behind it up to a multiple of twenty; its length. */
    int feed(String text) {
        for (int from = 0; from < text.length(); from += 20) {
            feed(number(text, from), number(text, from + 4), number(text, from + 8), number(text, from + 12),
                    number(text, from + 16));
        }
        return text.length();
    }

    static int number(String text, int from) {
        int number = 0;
        for (int i = from; i < from + 4; i++) {
            number = number << 8 | (i < text.length() ? text.charAt(i) & 255 : ' ');
        }
        return number;
    }

    int read(String text) {
        return read(feed(text));
    }

    int select(int k, String path) {
        return select(k, feed(path));
    }

    /** The NAME of a NODE, byte by byte up to the first one that there is not. */
    String name(int k) {
        StringBuilder all = new StringBuilder();
        for (int b = name(k, 0); b != -1; b = name(k, all.length())) {
            all.append((char) b);
        }
        return all.toString();
    }

    /** The STRING of a NODE, byte by byte up to the first one that there is not. */
    String string(int k) {
        StringBuilder all = new StringBuilder();
        for (int b = string(k, 0); b != -1; b = string(k, all.length())) {
            all.append((char) b);
        }
        return all.toString();
    }

    /** The FINDINGS, as 'number:subject' with a blank between. */
    String allFindings() {
        StringBuilder all = new StringBuilder();
        int size = findings();
        for (int i = 0; i < size; i++) {
            all.append(i == 0 ? "" : " ").append(finding(i, 0)).append(':').append(finding(i, 1));
        }
        return all.toString();
    }

    /** The NODES that are told, with a blank between. */
    String allTold() {
        StringBuilder all = new StringBuilder();
        int k = told(0);
        for (int i = 1; k != -1; i++) {
            all.append(i == 1 ? "" : " ").append(k);
            k = told(i);
        }
        return all.toString();
    }

    /** The NODES that a PATH tells, with a blank between, or the number that says that it is none. */
    String path(int k, String path) {
        int size = select(k, path);
        if (size < 0) {
            return size + "@" + place();
        }
        String all = allTold();
        due("how many NODES " + path + " tells", size, all.isEmpty() ? 0 : all.split(" ").length);
        return all;
    }

    /** The lines that are SET, each as 'page.place text' with a | behind it. */
    String lines() {
        StringBuilder all = new StringBuilder();
        int page = line(0, 0);
        for (int i = 0; page != -9; i++) {
            all.append(page).append('.').append(line(i, 2)).append(' ');
            int size = line(i, 1);
            for (int k = 0; k < size; k++) {
                all.append((char) at(i, k));
            }
            all.append('|');
            page = line(i + 1, 0);
        }
        return all.toString();
    }

    /** All that a call that is refused must leave as it was, place() and THE TAPE aside. */
    String state() {
        StringBuilder all = new StringBuilder();
        int nodes = count(0);
        for (int k = 0; k < nodes; k++) {
            for (int what = 0; what <= 6; what++) {
                all.append(node(k, what)).append(' ');
            }
            all.append(name(k)).append(' ').append(string(k)).append('\n');
        }
        all.append(findings()).append(' ').append(allFindings()).append('\n').append(allTold()).append('\n');
        all.append(lines()).append(' ').append(line(0, 3));
        for (int what = 0; what <= 6; what++) {
            all.append(' ').append(what == 5 ? 0 : count(what));
        }
        return all.toString();
    }

    /** A press with a small DOCUMENT that is judged, asked and SET. */
    static Desk full() {
        Desk desk = new Desk();
        due("read", desk.read("<!DOCTYPE d [<!ATTLIST K k CDATA 'v'>]><K>w</K>"), 4);
        due("select", desk.select(1, "@k"), 1);
        due("set", desk.set(5, 5), 1);
        return desk;
    }

    private static final String FULL = "0 -1 0 1 0 1 0  w\n1 0 1 1 1 1 0 K w\n2 1 1 1 0 0 1 k v\n3 1 0 1 0 0 0  w\n"
            + "2 6:1 7:1\n2\n0.0 w| 3 4 0 1 1 1 0 1";

    /** A text that must be refused, with this number at this place; it leaves all as it was but THE TAPE. */
    static void refused(String text, int number, int place) {
        Desk desk = full();
        due("read of " + text, desk.read(text), number);
        due("place in " + text, desk.place(), place);
        due("THE TAPE after " + text, desk.count(5), 0);
        due("the DOCUMENT after " + text, desk.state(), FULL);
    }

    /** A text that is ILL at the byte behind the mark. */
    static void ill(String marked) {
        refused(unmarked(marked), -1, marked.indexOf(MARK));
    }

    /** A text that is ILL by NAMES at the byte behind the mark. */
    static void illByNames(String marked) {
        refused(unmarked(marked), -2, marked.indexOf(MARK));
    }

    /** A text with something beyond a BOUND at the byte behind the mark. */
    static void bound(String marked) {
        refused(unmarked(marked), -3, marked.indexOf(MARK));
    }

    private static String unmarked(String marked) {
        int at = marked.indexOf(MARK);
        if (at < 0) {
            throw new IllegalStateException("no mark in " + marked);
        }
        return marked.substring(0, at) + marked.substring(at + 1);
    }

    /** A PATH that is ILL at the byte behind the mark. */
    void illPath(int k, String marked) {
        due("PATH " + marked, path(k, unmarked(marked)), "-1@" + marked.indexOf(MARK));
    }

    /** A PATH with something beyond a BOUND at the byte behind the mark. */
    void boundPath(int k, String marked) {
        due("PATH " + marked, path(k, unmarked(marked)), "-3@" + marked.indexOf(MARK));
    }

    /** A text that a new press must take, with this many NODES. */
    static Desk taken(String text, int nodes) {
        Desk desk = new Desk();
        due("read of " + text, desk.read(text), nodes);
        due("place in " + text, desk.place(), -1);
        due("NODES of " + text, desk.count(0), nodes);
        return desk;
    }

    static String repeat(String part, int times) {
        return part.repeat(times);
    }

    /** A part again and again, with a number from 0 on in the place of its %, and a sign between. */
    static String numbered(String part, String sign, int times) {
        StringBuilder all = new StringBuilder();
        for (int i = 0; i < times; i++) {
            all.append(i == 0 ? "" : sign).append(part.replace("%", "" + i));
        }
        return all.toString();
    }

    static void due(String what, int got, int want) {
        asked++;
        if (got != want) {
            wrong++;
            System.out.println(what + " answered " + got + ", due is " + want);
        }
    }

    static void due(String what, String got, String want) {
        asked++;
        if (!got.equals(want)) {
            wrong++;
            System.out.println(what + " answered '" + got + "', due is '" + want + "'");
        }
    }

    static void end() {
        System.out.println(wrong == 0 ? asked + " answers are as due" : wrong + " answers are not as due");
        if (wrong != 0) {
            System.exit(1);
        }
    }
}
