/** Promises 1 to 15: of each call the last number that may be, the first that may not, and what a refused call leaves. */
public final class CallEdgesTest {
    private static final int LEAST = Integer.MIN_VALUE;
    private static final int MOST = Integer.MAX_VALUE;
    private static final String JUDGED = "<!DOCTYPE d [<!ATTLIST K k CDATA 'v'>]><K>w</K>";

    public static void main(String[] args) {
        newObject();
        feed();
        feedWithoutRoom();
        readOfSoMany();
        readRefused();
        readTakes();
        place();
        placeStays();
        node();
        nameAndString();
        findings();
        selectOfSoMany();
        selectRefused();
        told();
        set();
        lineAndAt();
        count();
        twoObjects();
        lastCall();
        Desk.end();
    }

    /** What a call that is refused must leave as it was. */
    private static void leaves(Desk desk, String before, int tape, int place) {
        Desk.due("what a refused call leaves", desk.state(), before);
        Desk.due("THE TAPE it leaves", desk.count(5), tape);
        Desk.due("the place it leaves", desk.place(), place);
    }

    /** Promise 1. */
    private static void newObject() {
        Desk desk = new Desk();
        Desk.due("a new object", desk.state(), "-1 \n\n -9 0 0 0 0 0 0 0");
        Desk.due("its place", desk.place(), -1);
        Desk.due("its TAPE", desk.count(5), 0);
        Desk.due("set", desk.set(1, 1), -9);
        Desk.due("select", desk.select(0, 0), -9);
        desk.read("<a>");
        Desk.due("still no DOCUMENT", desk.state(), "-1 \n\n -9 0 0 0 0 0 0 0");
    }

    /** Promise 2: four bytes in each number, the highest first. */
    private static void feed() {
        Desk desk = new Desk();
        Desk.due("twenty", desk.feed(0x3c613e41, 0x42434445, 0x46474849, 0x4a4b4c4d, 0x3c2f613e), 20);
        Desk.due("all twenty", desk.read(20), 3);
        Desk.due("in order", desk.string(2), "ABCDEFGHIJKLM");
        // Numbers below 0 are four bytes like others; no byte of theirs is another one's.
        Desk.due("twenty", desk.feed(0x3c61203e, 0x20ff7fff, 0x8000ffff, 0xffffff80, -1), 20);
        Desk.due("a byte of 255", desk.read(20), -1);
        Desk.due("its place", desk.place(), 5);
        desk.feed(0x3c613e80, MOST, LEAST, 0, 0);
        desk.read(20);
        Desk.due("a byte of 128", desk.place(), 3);
        Desk.due("from 0 on again", desk.feed(0, 0, 0, 0, 0), 20);
        Desk.due("and on", desk.feed(0, 0, 0, 0, 0), 40);
    }

    /** Promise 2: 6000 bytes at most; -1, and none comes. */
    private static void feedWithoutRoom() {
        Desk desk = new Desk();
        String text = "<a/><!--" + Desk.repeat("x", 5989) + "-->";
        Desk.due("as many as may be", text.length(), 6000);
        desk.feed(text.substring(0, 5980));
        Desk.due("bytes", desk.count(5), 5980);
        Desk.due("the last twenty", desk.feed(0x78787878, 0x78787878, 0x78787878, 0x78787878, 0x782d2d3e), 6000);
        Desk.due("no room", desk.feed(0, 0, 0, 0, 0), -1);
        Desk.due("no room again", desk.feed(-1, -1, -1, -1, -1), -1);
        Desk.due("none came", desk.count(5), 6000);
        Desk.due("n above it", desk.read(6001), 0);
        Desk.due("all of it", desk.read(6000), 2);
        Desk.due("it is empty then", desk.count(5), 0);
        Desk.due("room again", desk.feed(0, 0, 0, 0, 0), 20);
    }

    /** Promise 3: n is 0 .. how many bytes. */
    private static void readOfSoMany() {
        Desk desk = Desk.full();
        String before = desk.state();
        desk.feed("<abcdefgh>x</abcdefgh>");
        int[] none = {-1, 41, LEAST, MOST};
        for (int n : none) {
            Desk.due("read(" + n + ")", desk.read(n), 0);
        }
        leaves(desk, before, 40, -1);
        Desk.due("the bytes are still there", desk.read(22), 3);
        desk.feed("<abcdefgh>x</abcdefgh>");
        Desk.due("all bytes", desk.read(40), 3);
        desk.feed("<abcdefgh>x</abcdefgh>");
        Desk.due("one too few", desk.read(21), -1);
        Desk.due("place", desk.place(), 21);
        Desk.due("what was behind is gone", desk.count(5), 0);
        desk.feed("<a/>");
        Desk.due("no byte", desk.read(0), -1);
        Desk.due("place", desk.place(), 0);
        Desk.due("THE TAPE is empty then", desk.count(5), 0);
        Desk.due("no byte of none", desk.read(0), -1);
        Desk.due("one byte of none", desk.read(1), 0);
    }

    /** Promise 3: else the DOCUMENT stays. */
    private static void readRefused() {
        String[] texts = {"<a>", "<!DOCTYPE a [<!ELEMENT a ANY><!ATTLIST a b CDATA 'c'>]><a><b>x y</b><c d='e'></e></a>",
            "<a " + Desk.repeat("b", 21) + "=''/>", "", "<a/>x"};
        int[] answers = {-1, -2, -3, -1, -1};
        int[] places = {3, 79, 3, 0, 4};
        for (int i = 0; i < texts.length; i++) {
            Desk desk = Desk.full();
            String before = desk.state();
            Desk.due("read of " + texts[i], desk.read(texts[i]), answers[i]);
            leaves(desk, before, 0, places[i]);
            Desk.due("it can be asked", desk.path(0, "//@k"), "2");
            Desk.due("it can be set", desk.set(1, 1), 1);
            Desk.due("refused again", desk.read(texts[i]), answers[i]);
            leaves(desk, before, 0, places[i]);
        }
    }

    /** Promises 3 and 13: read() that takes a DOCUMENT leaves nothing SET, and nothing told. */
    private static void readTakes() {
        Desk desk = Desk.full();
        Desk.due("read", desk.read("<a/>"), 2);
        Desk.due("another DOCUMENT", desk.state(), "0 -1 0 0 0 1 0  \n1 0 1 0 0 0 0 a \n-1 \n\n -9 2 0 0 0 0 0 1");
        Desk.due("nothing told", desk.told(0), -1);
        Desk.due("no line", desk.line(0, 0), -9);
        Desk.due("no byte", desk.at(0, 0), -1);
        Desk.due("no lines", desk.count(3), 0);
        Desk.due("no pages", desk.count(4), 0);
        // The same text again is a new DOCUMENT, too.
        desk = Desk.full();
        Desk.due("read again", desk.read(JUDGED), 4);
        Desk.due("nothing told", desk.told(0), -1);
        Desk.due("no line", desk.line(0, 1), -9);
        Desk.due("judged again", desk.allFindings(), "6:1 7:1");
    }

    /** Promise 4: where the latest one was ILL or BOUND; -1 if the latest was not. */
    private static void place() {
        Desk desk = new Desk();
        Desk.due("there was none", desk.place(), -1);
        desk.read("");
        Desk.due("ILL at 0", desk.place(), 0);
        desk.read("<a></b>");
        Desk.due("ILL by NAMES", desk.place(), 5);
        desk.read("<a>" + Desk.repeat("x", 2001));
        Desk.due("BOUND", desk.place(), 2003);
        desk.read("<a/>");
        Desk.due("the latest was not", desk.place(), -1);
        desk.select(0, "a/");
        Desk.due("an ILL PATH", desk.place(), 2);
        desk.read("<a/>");
        Desk.due("read() after select()", desk.place(), -1);
        desk.select(0, "a[1][1][1][1][1]");
        Desk.due("a PATH with a BOUND", desk.place(), 13);
        desk.select(0, "nothing");
        Desk.due("a PATH that tells nothing", desk.place(), -1);
        desk.read("<a");
        Desk.due("ILL at the end", desk.place(), 2);
        desk.select(0, ".");
        Desk.due("select() after read()", desk.place(), -1);
    }

    /** Promise 4: a call with which nothing happens, or that is none of these two, leaves the place. */
    private static void placeStays() {
        int[] texts = {-1, 6};
        for (int place : texts) {
            Desk desk = Desk.full();
            if (place >= 0) {
                desk.read("<a b='");
            }
            desk.read(-1);
            desk.read(1);
            desk.select(0, -1);
            desk.select(0, 1);
            desk.select(4, 0);
            desk.select(-1, 0);
            desk.set(0, 0);
            desk.set(9, 9);
            desk.feed(0, 0, 0, 0, 0);
            desk.node(9, 9);
            desk.count(9);
            Desk.due("the place", desk.place(), place);
            Desk.due("asked twice", desk.place(), place);
        }
    }

    /** Promise 5: -9: no such NODE, what. */
    private static void node() {
        Desk desk = Desk.full();
        int[] none = {-1, 4, 599, 600, LEAST, MOST};
        for (int k : none) {
            for (int what = 0; what <= 6; what++) {
                Desk.due("node(" + k + ", " + what + ")", desk.node(k, what), -9);
            }
        }
        int[] others = {-1, 7, LEAST, MOST};
        for (int k = 0; k < 4; k++) {
            for (int what : others) {
                Desk.due("node(" + k + ", " + what + ")", desk.node(k, what), -9);
            }
        }
        Desk.due("the first NODE", desk.node(0, 0), 0);
        Desk.due("an ELEMENT", desk.node(1, 0), 1);
        Desk.due("an attribute", desk.node(2, 0), 2);
        Desk.due("the last NODE", desk.node(3, 0), 3);
        Desk.due("what 6 of an attribute by default", desk.node(2, 6), 1);
        Desk.due("what 6 of a TEXT", desk.node(3, 6), 0);
    }

    /** Promises 6 and 7: -1 if there is none. */
    private static void nameAndString() {
        Desk desk = Desk.taken("<abc de=''><f/>gh</abc>", 5);
        int[] none = {-1, 5, 600, LEAST, MOST};
        for (int k : none) {
            Desk.due("name(" + k + ", 0)", desk.name(k, 0), -1);
            Desk.due("string(" + k + ", 0)", desk.string(k, 0), -1);
        }
        String[] names = {"", "abc", "de", "f", ""};
        String[] strings = {"gh", "gh", "", "", "gh"};
        int[] beyond = {-1, LEAST, MOST};
        for (int k = 0; k < 5; k++) {
            Desk.due("NAME of " + k, desk.name(k), names[k]);
            Desk.due("STRING of " + k, desk.string(k), strings[k]);
            Desk.due("how long", desk.node(k, 2), names[k].length());
            Desk.due("how long", desk.node(k, 3), strings[k].length());
            for (int i : beyond) {
                Desk.due("name(" + k + ", " + i + ")", desk.name(k, i), -1);
                Desk.due("string(" + k + ", " + i + ")", desk.string(k, i), -1);
            }
        }
    }

    /** Promises 8 and 9. */
    private static void findings() {
        Desk desk = Desk.taken("<a b=''/>", 3);
        Desk.due("without a DOCTYPE", desk.findings(), -1);
        Desk.due("none such", desk.finding(0, 0), -9);
        desk = Desk.taken("<!DOCTYPE a [<!ELEMENT a EMPTY>]><a/>", 2);
        Desk.due("no FINDING", desk.findings(), 0);
        Desk.due("none such", desk.finding(0, 0), -9);
        Desk.due("none such", desk.finding(0, 1), -9);
        desk = Desk.full();
        Desk.due("two", desk.findings(), 2);
        int[] none = {-1, 2, LEAST, MOST};
        for (int i : none) {
            Desk.due("finding(" + i + ", 0)", desk.finding(i, 0), -9);
            Desk.due("finding(" + i + ", 1)", desk.finding(i, 1), -9);
        }
        int[] others = {-1, 2, LEAST, MOST};
        for (int what : others) {
            Desk.due("finding(0, " + what + ")", desk.finding(0, what), -9);
        }
        Desk.due("the first", desk.finding(0, 0), 6);
        Desk.due("the last", desk.finding(1, 0), 7);
        Desk.due("its ELEMENT", desk.finding(1, 1), 1);
        desk.read("<a/>");
        Desk.due("of a DOCUMENT without a DOCTYPE", desk.finding(0, 0), -9);
    }

    /** Promise 10: no such NODE, or n that is not 0 .. how many bytes: nothing happens. */
    private static void selectOfSoMany() {
        Desk desk = Desk.full();
        String before = desk.state();
        desk.feed("/");
        int[][] none = {{-1, 1}, {4, 1}, {600, 1}, {LEAST, 1}, {MOST, 1}, {0, -1}, {0, 21}, {3, LEAST}, {3, MOST}};
        for (int[] pair : none) {
            Desk.due("select(" + pair[0] + ", " + pair[1] + ")", desk.select(pair[0], pair[1]), -9);
        }
        leaves(desk, before, 20, -1);
        Desk.due("the bytes are still there", desk.select(3, 1), 1);
        Desk.due("THE TAPE is empty then", desk.count(5), 0);
        desk.feed("/K");
        Desk.due("no byte is no PATH", desk.select(0, 0), -1);
        Desk.due("THE TAPE is empty then", desk.count(5), 0);
        Desk.due("all bytes", desk.select(0, "//K/text()[.='w']/.."), 1);
        Desk.due("what is told", desk.told(0), 1);
        Desk.due("asked at the last NODE", desk.path(3, ".."), "1");
        desk = new Desk();
        desk.feed(".");
        Desk.due("no DOCUMENT", desk.select(0, 1), -9);
        Desk.due("nothing happens", desk.count(5), 20);
        Desk.due("nothing happens", desk.place(), -1);
    }

    /** Promise 10: ILL or BOUND: what the one before told stays. */
    private static void selectRefused() {
        Desk desk = Desk.full();
        String before = desk.state();
        Desk.due("ILL", desk.select(1, "text()["), -1);
        leaves(desk, before, 0, 7);
        Desk.due("BOUND", desk.select(1, Desk.repeat("./", 12) + "."), -3);
        leaves(desk, before, 0, 24);
        Desk.due("one that tells nothing", desk.select(1, "x"), 0);
        Desk.due("nothing is told", desk.told(0), -1);
        Desk.due("ILL", desk.select(1, "@"), -1);
        Desk.due("nothing is told still", desk.told(0), -1);
    }

    /** Promise 11. */
    private static void told() {
        Desk desk = Desk.taken("<a><b/><b/><b/></a>", 5);
        Desk.due("before any select()", desk.told(0), -1);
        Desk.due("three", desk.select(1, "b"), 3);
        int[] none = {-1, 3, LEAST, MOST, 599, 600};
        for (int i : none) {
            Desk.due("told(" + i + ")", desk.told(i), -1);
        }
        Desk.due("told", desk.allTold(), "2 3 4");
        Desk.due("the latest one alone", desk.select(1, "b[2]"), 1);
        Desk.due("told", desk.allTold(), "3");
    }

    /** Promise 12: a width 1 .. 60, a height 1 .. 50. */
    private static void set() {
        Desk desk = Desk.full();
        String before = desk.state();
        int[][] wrong = {{0, 1}, {61, 1}, {1, 0}, {1, 51}, {-1, 1}, {1, -1}, {LEAST, 1}, {1, LEAST}, {MOST, 1}, {1, MOST},
            {0, 0}, {61, 51}};
        for (int[] pair : wrong) {
            Desk.due("set(" + pair[0] + ", " + pair[1] + ")", desk.set(pair[0], pair[1]), -9);
        }
        leaves(desk, before, 0, -1);
        int[][] right = {{1, 1}, {60, 1}, {1, 50}, {60, 50}};
        for (int[] pair : right) {
            Desk.due("set(" + pair[0] + ", " + pair[1] + ")", desk.set(pair[0], pair[1]), 1);
        }
        desk = Desk.taken("<a/>", 2);
        Desk.due("no WORD", desk.set(60, 50), 0);
        Desk.due("no line", desk.line(0, 0), -9);
        Desk.due("no page", desk.count(4), 0);
    }

    /** Promises 13 and 14. */
    private static void lineAndAt() {
        Desk desk = Desk.taken("<a>one<b> two</b></a>", 5);
        Desk.due("before any set()", desk.line(0, 0), -9);
        Desk.due("before any set()", desk.at(0, 0), -1);
        Desk.due("two lines", desk.set(3, 1), 2);
        int[] none = {-1, 2, LEAST, MOST, 1999, 2000};
        for (int i : none) {
            for (int what = 0; what <= 3; what++) {
                Desk.due("line(" + i + ", " + what + ")", desk.line(i, what), -9);
            }
            Desk.due("at(" + i + ", 0)", desk.at(i, 0), -1);
        }
        int[] others = {-1, 4, LEAST, MOST};
        for (int what : others) {
            Desk.due("line(1, " + what + ")", desk.line(1, what), -9);
        }
        int[][] due = {{0, 3, 0, 2}, {1, 3, 0, 4}};
        for (int i = 0; i < 2; i++) {
            for (int what = 0; what <= 3; what++) {
                Desk.due("line(" + i + ", " + what + ")", desk.line(i, what), due[i][what]);
            }
        }
        int[] beyond = {-1, 3, LEAST, MOST};
        for (int k : beyond) {
            Desk.due("at(0, " + k + ")", desk.at(0, k), -1);
            Desk.due("at(1, " + k + ")", desk.at(1, k), -1);
        }
        Desk.due("the first byte", desk.at(0, 0), 'o');
        Desk.due("the last byte", desk.at(1, 2), 'o');
        // What was SET last alone.
        Desk.due("one line", desk.set(7, 1), 1);
        Desk.due("none such", desk.line(1, 0), -9);
        Desk.due("none such", desk.at(1, 0), -1);
        Desk.due("how many bytes", desk.line(0, 1), 7);
    }

    /** Promise 15. */
    private static void count() {
        Desk desk = new Desk();
        int[] others = {-1, 7, LEAST, MOST};
        for (int what : others) {
            Desk.due("count(" + what + ")", desk.count(what), -9);
        }
        for (int what = 0; what <= 6; what++) {
            Desk.due("without a DOCUMENT, " + what, desk.count(what), 0);
        }
        desk.read("<!DOCTYPE a [<!ELEMENT a ANY><!ELEMENT a ANY><!ATTLIST a b ID 'x' b CDATA 'y'>"
                + "<!ATTLIST c b ID #IMPLIED>]><a>x<a><a/></a><a/>y z<!--c--></a>");
        desk.set(2, 2);
        desk.feed("<a/>");
        int[] due = {11, 2, 2, 2, 1, 20, 3};
        for (int what = 0; what <= 6; what++) {
            Desk.due("count(" + what + ")", desk.count(what), due[what]);
        }
        for (int what : others) {
            Desk.due("count(" + what + ")", desk.count(what), -9);
        }
    }

    private static void twoObjects() {
        Desk one = Desk.full();
        String before = one.state();
        Desk other = new Desk();
        other.read("<!DOCTYPE x [<!ELEMENT x EMPTY>]><x>one two</x>");
        other.select(0, "x");
        other.set(3, 3);
        other.feed("abc");
        leaves(one, before, 0, -1);
    }

    /** An object is used for 512 calls: the last of them is answered like the first. */
    private static void lastCall() {
        Desk desk = new Desk();
        String refused = "<a b='" + Desk.repeat("x", 51);
        for (int turn = 0; turn < 100; turn++) {
            Desk.due("refused, 4 calls each", desk.read(refused), -1);
        }
        for (int turn = 0; turn < 25; turn++) {
            Desk.due("taken, 4 calls each", desk.read(refused + "'/>"), 3);
        }
        for (int call = 501; call <= 506; call++) {
            Desk.due("call " + call, desk.node(1, 4), 1);
        }
        Desk.due("calls 507 to 510", desk.path(2, "/a"), "1");
        Desk.due("call 511", desk.set(60, 50), 0);
        Desk.due("call 512", desk.place(), -1);
    }
}
