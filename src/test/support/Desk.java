/** A press with texts instead of numbers, that prints every answer that is not the one that is due. */
final class Desk {
    private static int wrong = 0;
    private static int asked = 0;

    final TreePress press = new TreePress();

    /** Brings a text onto THE TAPE, with blanks behind it up to a multiple of twenty; its length. */
    int feed(String text) {
        for (int from = 0; from < text.length(); from += 20) {
            press.feed(number(text, from), number(text, from + 4), number(text, from + 8),
                    number(text, from + 12), number(text, from + 16));
        }
        return text.length();
    }

    static int number(String text, int from) {
        int number = 0;
        for (int i = from; i < from + 4; i++) {
            number = number << 8 | (i < text.length() ? text.charAt(i) & 255 : ' ');
        }
        return number;
    }

    int read(String text) {
        return press.read(feed(text));
    }

    int select(int k, String path) {
        return press.select(k, feed(path));
    }

    String name(int k) {
        StringBuilder all = new StringBuilder();
        for (int i = 0; press.name(k, i) != -1; i++) {
            all.append((char) press.name(k, i));
        }
        return all.toString();
    }

    String string(int k) {
        StringBuilder all = new StringBuilder();
        for (int i = 0; press.string(k, i) != -1; i++) {
            all.append((char) press.string(k, i));
        }
        return all.toString();
    }

    /** The FINDINGS, as 'number:subject' with a blank between. */
    String findings() {
        StringBuilder all = new StringBuilder();
        for (int i = 0; i < press.findings(); i++) {
            all.append(i == 0 ? "" : " ").append(press.finding(i, 0)).append(':').append(press.finding(i, 1));
        }
        return all.toString();
    }

    /** The NODES that a PATH tells, with a blank between, or the number that says that it is none. */
    String path(int k, String path) {
        int size = select(k, path);
        if (size < 0) {
            return size + "@" + press.place();
        }
        StringBuilder all = new StringBuilder();
        for (int i = 0; i < size; i++) {
            all.append(i == 0 ? "" : " ").append(press.told(i));
        }
        return all.toString();
    }

    /** The lines that are SET, each as 'page.place text' with a | behind it. */
    String lines() {
        StringBuilder all = new StringBuilder();
        for (int i = 0; press.line(i, 0) != -9; i++) {
            all.append(press.line(i, 0)).append('.').append(press.line(i, 2)).append(' ');
            for (int k = 0; k < press.line(i, 1); k++) {
                all.append((char) press.at(i, k));
            }
            all.append('|');
        }
        return all.toString();
    }

    /** A text that must be refused on a new press, with this number at this place. */
    static void refused(String text, int number, int place) {
        Desk desk = new Desk();
        due("read of " + text, desk.read(text), number);
        due("place in " + text, desk.press.place(), place);
        due("NODES after " + text, desk.press.count(0), 0);
        due("THE TAPE after " + text, desk.press.count(5), 0);
    }

    /** A text that a new press must take, with this many NODES. */
    static Desk taken(String text, int nodes) {
        Desk desk = new Desk();
        due("read of " + text, desk.read(text), nodes);
        due("place in " + text, desk.press.place(), -1);
        return desk;
    }

    static String repeat(String part, int times) {
        return part.repeat(times);
    }

    static void due(String what, int got, int want) {
        asked++;
        if (got != want) {
            wrong++;
            System.out.println(what + " answered " + got + ", due is " + want);
        }
    }

    static void due(String what, String got, String want) {
        asked++;
        if (!got.equals(want)) {
            wrong++;
            System.out.println(what + " answered '" + got + "', due is '" + want + "'");
        }
    }

    static void end() {
        System.out.println(wrong == 0 ? asked + " answers are as due" : wrong + " answers are not as due");
        if (wrong != 0) {
            System.exit(1);
        }
    }
}
