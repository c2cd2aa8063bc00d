/** Promises 12, 13 and 14: set, line and at. */
public final class SetTest {
    public static void main(String[] args) {
        calls();
        words();
        blocks();
        pages();
        keeping();
        Desk.end();
    }

    private static void isSet(String text, int width, int height, String due) {
        Desk desk = new Desk();
        if (desk.read(text) < 0) {
            Desk.due("read of " + text, desk.place(), -1);
        }
        int lines = desk.set(width, height);
        Desk.due("lines of " + text, desk.lines(), due);
        Desk.due("how many lines of " + text, lines, due.length() - due.replace("|", "").length());
    }

    private static void calls() {
        Desk desk = new Desk();
        Desk.due("without a DOCUMENT", desk.set(10, 10), -9);
        desk.read("<a>one two<b>three</b></a>");
        int[][] wrong = {{0, 1}, {61, 1}, {1, 0}, {1, 51}, {-1, 1}, {1, Integer.MIN_VALUE}, {Integer.MAX_VALUE, 1}};
        for (int[] pair : wrong) {
            Desk.due("set(" + pair[0] + ", " + pair[1] + ")", desk.set(pair[0], pair[1]), -9);
        }
        Desk.due("nothing is SET", desk.line(0, 0), -9);
        Desk.due("nothing is SET", desk.at(0, 0), -1);
        Desk.due("the widest and highest", desk.set(60, 50), 1);
        Desk.due("the smallest", desk.set(1, 1), 11);
        Desk.due("set", desk.set(8, 1), 2);
        Desk.due("a wrong one leaves it", desk.set(0, 1), -9);
        int[][] due = {{0, 3, 0, 2}, {1, 8, 0, 2}};
        for (int i = 0; i < due.length; i++) {
            for (int what = 0; what < 4; what++) {
                Desk.due("line(" + i + ", " + what + ")", desk.line(i, what), due[i][what]);
            }
        }
        Desk.due("another what", desk.line(0, 4), -9);
        Desk.due("another what", desk.line(0, -1), -9);
        Desk.due("no such line", desk.line(2, 0), -9);
        Desk.due("no such line", desk.line(-1, 0), -9);
        Desk.due("byte", desk.at(1, 7), 'e');
        Desk.due("behind the line", desk.at(1, 8), -1);
        Desk.due("ahead of the line", desk.at(1, -1), -1);
        Desk.due("no such line", desk.at(2, 0), -1);
        Desk.due("no such line", desk.at(-1, 0), -1);
        desk.read("<a></b>");
        Desk.due("a text that is refused leaves it", desk.line(1, 1), 8);
        desk.read("<a>x</a>");
        Desk.due("a new DOCUMENT", desk.line(0, 0), -9);
        Desk.due("a new DOCUMENT", desk.at(0, 0), -1);
    }

    private static void words() {
        isSet("<a/>", 5, 5, "");
        isSet("<a> \n </a>", 5, 5, "");
        isSet("<a>one</a>", 5, 5, "0.0 one|");
        isSet("<a> one \t\r\n two </a>", 7, 5, "0.0 one two|");
        isSet("<a>one two</a>", 6, 5, "0.0 one|0.1 two|");
        isSet("<a>on<b>e t</b>wo<!--c-->s</a>", 60, 5, "0.0 one twos|");
        isSet("<a>one&#32;two&#10;&lt;</a>", 60, 5, "0.0 one two <|");
        isSet("<a>abcdefgh i</a>", 3, 5, "0.0 abc|0.1 def|0.2 gh|0.3 i|");
        isSet("<a>abcdefg i j k</a>", 3, 5, "0.0 abc|0.1 def|0.2 g i|0.3 j k|");
        isSet("<a>x abcd</a>", 3, 5, "0.0 x|0.1 abc|0.2 d|");
        isSet("<a>x abcdef y</a>", 3, 5, "0.0 x|0.1 abc|0.2 def|0.3 y|");
        isSet("<a>x abc y</a>", 3, 5, "0.0 x|0.1 abc|0.2 y|");
        full();
        Desk desk = Desk.taken("<a>ab<b>cd</b>ef <c>g</c></a>", 8);
        desk.set(3, 9);
        Desk.due("lines", desk.lines(), "0.0 abc|0.1 def|0.2 g|");
        Desk.due("the TEXT of the first byte", desk.line(0, 3), 2);
        Desk.due("the TEXT of a piece", desk.line(1, 3), 4);
        Desk.due("the TEXT of the last line", desk.line(2, 3), 7);
    }

    /** As many bytes as a DOCUMENT may have. */
    private static void full() {
        Desk desk = Desk.taken("<a>" + Desk.repeat("x", 2000) + "</a>", 3);
        Desk.due("the most lines", desk.set(1, 50), 2000);
        Desk.due("the last one", desk.at(1999, 0), 'x');
        Desk.due("its page", desk.line(1999, 0), 39);
        Desk.due("wide lines", desk.set(60, 50), 34);
        Desk.due("the last one", desk.line(33, 1), 20);
        desk.read("<a>" + Desk.repeat(" x", 1000) + "</a>");
        Desk.due("the most WORDS", desk.set(60, 50), 34);
        Desk.due("the last one", desk.line(33, 1), 19);
        Desk.due("the most WORDS, each alone", desk.set(2, 50), 1000);
    }

    private static void blocks() {
        isSet("<A>one<B>two</B>three</A>", 60, 9, "0.0 one|0.1 two|0.2 three|");
        isSet("<a>one<b>two</b>three</a>", 60, 9, "0.0 onetwothree|");
        isSet("<a>one<_A>two</_A>three</a>", 60, 9, "0.0 onetwothree|");
        isSet("<a>one<Z/>two</a>", 60, 9, "0.0 one|0.1 two|");
        isSet("<a><A/><A> </A><A><B/></A>x</a>", 60, 9, "0.0 x|");
        isSet("<a>x <b>y<A>z</A></b>u</a>", 60, 9, "0.0 x y|0.1 z|0.2 u|");
    }

    private static void pages() {
        isSet("<a>1 2 3 4 5</a>", 1, 2, "0.0 1|0.1 2|1.0 3|1.1 4|2.0 5|");
        Desk desk = Desk.taken("<a>1 2 3 4 5</a>", 3);
        desk.set(1, 2);
        Desk.due("pages", desk.count(4), 3);
        desk.set(1, 5);
        Desk.due("one page", desk.count(4), 1);
        desk.set(1, 1);
        Desk.due("a page a line", desk.count(4), 5);
    }

    private static void keeping() {
        isSet("<a>1 2<A keep='1'>3 4</A>5</a>", 1, 3, "0.0 1|0.1 2|1.0 3|1.1 4|1.2 5|");
        isSet("<a>1 2<A>3 4</A>5</a>", 1, 3, "0.0 1|0.1 2|0.2 3|1.0 4|1.1 5|");
        isSet("<a>1 2<A keep='2'>3 4</A>5</a>", 1, 3, "0.0 1|0.1 2|0.2 3|1.0 4|1.1 5|");
        isSet("<a>1 2<A keep='11'>3 4</A></a>", 1, 3, "0.0 1|0.1 2|0.2 3|1.0 4|");
        isSet("<a>1 2<A Keep='1' kee='1'>3 4</A></a>", 1, 3, "0.0 1|0.1 2|0.2 3|1.0 4|");
        isSet("<a>1 2<A kxep='1' kexp='1' keex='1' xeep='1'>3 4</A></a>", 1, 3, "0.0 1|0.1 2|0.2 3|1.0 4|");
        isSet("<a>1 2 <b keep='1'>3 4</b></a>", 1, 3, "0.0 1|0.1 2|0.2 3|1.0 4|");
        isSet("<a>1<A keep='1'>2 3</A>4</a>", 1, 3, "0.0 1|0.1 2|0.2 3|1.0 4|");
        // As many lines as the height are kept together, one more are not.
        isSet("<a>1<A keep='1'>2 3 4</A></a>", 1, 3, "0.0 1|1.0 2|1.1 3|1.2 4|");
        isSet("<a>1<A keep='1'>2 3 4 5</A></a>", 1, 3, "0.0 1|0.1 2|0.2 3|1.0 4|1.1 5|");
        // By default counts as well.
        isSet("<!DOCTYPE a [<!ATTLIST A keep CDATA '1'>]><a>1 2<A>3 4</A></a>", 1, 3, "0.0 1|0.1 2|1.0 3|1.1 4|");
        // One within another is looked at when it begins.
        isSet("<a>1<A keep='1'>2<B keep='1'>3 4</B></A></a>", 1, 3, "0.0 1|1.0 2|1.1 3|1.2 4|");
        isSet("<a>1<A keep='1'>2 3<B keep='1'>4 5</B></A></a>", 1, 3, "0.0 1|0.1 2|0.2 3|1.0 4|1.1 5|");
        isSet("<a>1 2<A keep='1'><B keep='1'>3 4</B>5 6 7</A></a>", 1, 3,
                "0.0 1|0.1 2|1.0 3|1.1 4|1.2 5|2.0 6|2.1 7|");
        isSet("<a>1 2<A keep='1'/><A keep='1'>3</A>4</a>", 1, 3, "0.0 1|0.1 2|0.2 3|1.0 4|");
    }
}
