/** SETTING: where a WORD, a line, a page just has room or has not. */
public final class SettingEdgesTest {
    public static void main(String[] args) {
        words();
        wordsOverElements();
        blocks();
        room();
        wideWords();
        widest();
        pages();
        keep();
        keptAttribute();
        keptHeights();
        keptWithin();
        keptWithoutLines();
        textOfLine();
        setAgain();
        most();
        Desk.end();
    }

    private static void isSet(String text, int width, int height, String due) {
        Desk desk = new Desk();
        Desk.due("whether it is read: " + text, desk.read(text) > 0 ? 1 : 0, 1);
        int lines = desk.set(width, height);
        Desk.due("lines of " + text, desk.lines(), due);
        Desk.due("how many lines", lines, due.length() - due.replace("|", "").length());
        Desk.due("how many lines", desk.count(3), lines);
        int pages = lines == 0 ? 0 : 1 + desk.line(lines - 1, 0);
        Desk.due("how many pages", desk.count(4), pages);
    }

    /** WORDS are rows of bytes that are no S. */
    private static void words() {
        isSet("<a/>", 9, 9, "");
        isSet("<a></a>", 9, 9, "");
        isSet("<a> \t\r\n</a>", 9, 9, "");
        isSet("<a>&#32;&#9;&#10;&#13;</a>", 9, 9, "");
        isSet("<a>x</a>", 9, 9, "0.0 x|");
        isSet("<a> x </a>", 9, 9, "0.0 x|");
        isSet("<a>u v\tw\nx\ry</a>", 9, 9, "0.0 u v w x y|");
        isSet("<a>u&#32;v&#9;w&#10;x&#13;y</a>", 9, 9, "0.0 u v w x y|");
        isSet("<a>u  \n\t  v</a>", 9, 9, "0.0 u v|");
        isSet("<a>&lt;&amp;'\"&gt;]]></a>", 9, 9, "0.0 <&'\">]]>|");
        // Of all TEXTS, and of nothing else.
        isSet("<a b='x'><c d='y'/><!--z--></a>", 9, 9, "");
    }

    /** Also over ELEMENTS' ends and beginnings. */
    private static void wordsOverElements() {
        isSet("<a>u<b>v</b>w<!--x-->x<c/>y</a>", 9, 9, "0.0 uvwxy|");
        isSet("<a>u <b>v</b> w</a>", 9, 9, "0.0 u v w|");
        isSet("<a>u<b> v </b>w</a>", 9, 9, "0.0 u v w|");
        isSet("<a>uv<b>wx</b>yz</a>", 3, 9, "0.0 uvw|0.1 xyz|");
        isSet("<a>uv<b>wx</b>yz</a>", 6, 9, "0.0 uvwxyz|");
        isSet("<a>u<b> </b>v</a>", 9, 9, "0.0 u v|");
    }

    /** Where an ELEMENT begins or ends whose NAME's first byte is A .. Z, a WORD and a line end. */
    private static void blocks() {
        isSet("<a>u<A>v</A>w</a>", 9, 9, "0.0 u|0.1 v|0.2 w|");
        isSet("<a>u<Z>v</Z>w</a>", 9, 9, "0.0 u|0.1 v|0.2 w|");
        isSet("<a>u<z>v</z>w</a>", 9, 9, "0.0 uvw|");
        isSet("<a>u<_>v</_>w</a>", 9, 9, "0.0 uvw|");
        isSet("<a>u<aA>v</aA>w</a>", 9, 9, "0.0 uvw|");
        isSet("<a>u<Aa>v</Aa>w</a>", 9, 9, "0.0 u|0.1 v|0.2 w|");
        isSet("<a>u<A/>v</a>", 9, 9, "0.0 u|0.1 v|");
        isSet("<a>u <A> </A> v</a>", 9, 9, "0.0 u|0.1 v|");
        isSet("<a>u<A><B>v</B></A>w</a>", 9, 9, "0.0 u|0.1 v|0.2 w|");
        isSet("<a>u<b><A>v</A></b>w</a>", 9, 9, "0.0 u|0.1 v|0.2 w|");
        isSet("<A>u<b>v</b></A>", 9, 9, "0.0 uv|");
        isSet("<A><B>u</B><B>v</B></A>", 9, 9, "0.0 u|0.1 v|");
        // No line without a WORD.
        isSet("<A><B/><B><C/></B></A>", 9, 9, "");
        // An attribute is no BLOCK.
        isSet("<a>u<b A='x'>v</b></a>", 9, 9, "0.0 uv|");
    }

    /** A WORD comes behind the line, with a blank between, if it has room so; else it begins the next line. */
    private static void room() {
        isSet("<a>uv wx</a>", 5, 9, "0.0 uv wx|");
        isSet("<a>uv wx</a>", 4, 9, "0.0 uv|0.1 wx|");
        isSet("<a>uv wx</a>", 2, 9, "0.0 uv|0.1 wx|");
        isSet("<a>u v w x</a>", 1, 9, "0.0 u|0.1 v|0.2 w|0.3 x|");
        isSet("<a>u v w x</a>", 2, 9, "0.0 u|0.1 v|0.2 w|0.3 x|");
        isSet("<a>u v w x</a>", 3, 9, "0.0 u v|0.1 w x|");
        isSet("<a>u v w x</a>", 6, 9, "0.0 u v w|0.1 x|");
        isSet("<a>uvw x y</a>", 3, 9, "0.0 uvw|0.1 x y|");
        isSet("<a>x uvw y</a>", 3, 9, "0.0 x|0.1 uvw|0.2 y|");
        isSet("<a>uvwx</a>", 4, 9, "0.0 uvwx|");
    }

    /** One wider than the width is cut into pieces of the width; what is left goes on as a WORD. */
    private static void wideWords() {
        isSet("<a>uvwx</a>", 3, 9, "0.0 uvw|0.1 x|");
        isSet("<a>uvwxyz</a>", 3, 9, "0.0 uvw|0.1 xyz|");
        isSet("<a>uvwxyz1</a>", 3, 9, "0.0 uvw|0.1 xyz|0.2 1|");
        isSet("<a>uvw</a>", 1, 9, "0.0 u|0.1 v|0.2 w|");
        // It begins a line of its own, though a piece of it had room.
        isSet("<a>1 uvwx</a>", 3, 9, "0.0 1|0.1 uvw|0.2 x|");
        isSet("<a>1 uvwxyz</a>", 5, 9, "0.0 1|0.1 uvwxy|0.2 z|");
        // What is left takes the next WORD behind it, if it has room.
        isSet("<a>uvwx y</a>", 3, 9, "0.0 uvw|0.1 x y|");
        isSet("<a>uvwx yz</a>", 3, 9, "0.0 uvw|0.1 x|0.2 yz|");
        isSet("<a>uvwx yz12</a>", 3, 9, "0.0 uvw|0.1 x|0.2 yz1|0.3 2|");
        isSet("<a>uvwxyz 1</a>", 3, 9, "0.0 uvw|0.1 xyz|0.2 1|");
        // A BLOCK ends it.
        isSet("<a>uvwx<A>y</A></a>", 3, 9, "0.0 uvw|0.1 x|0.2 y|");
        isSet("<a>uvwx<b>yz1</b></a>", 3, 9, "0.0 uvw|0.1 xyz|0.2 1|");
    }

    private static void widest() {
        String sixty = "abcdefghijklmnopqrstuvwxyzabcdefghijklmnopqrstuvwxyz12345678";
        isSet("<a>" + sixty + "</a>", 60, 1, "0.0 " + sixty + "|");
        isSet("<a>" + sixty + "9</a>", 60, 1, "0.0 " + sixty + "|1.0 9|");
        isSet("<a>" + sixty.substring(2) + " 9</a>", 60, 1, "0.0 " + sixty.substring(2) + " 9|");
        isSet("<a>" + sixty.substring(1) + " 9</a>", 60, 1, "0.0 " + sixty.substring(1) + "|1.0 9|");
    }

    /** Lines go onto pages of that height. */
    private static void pages() {
        isSet("<a>1 2 3</a>", 1, 1, "0.0 1|1.0 2|2.0 3|");
        isSet("<a>1 2 3</a>", 1, 2, "0.0 1|0.1 2|1.0 3|");
        isSet("<a>1 2 3</a>", 1, 3, "0.0 1|0.1 2|0.2 3|");
        isSet("<a>1 2 3 4</a>", 1, 2, "0.0 1|0.1 2|1.0 3|1.1 4|");
        Desk desk = Desk.taken("<a>" + Desk.repeat("x ", 101) + "</a>", 3);
        Desk.due("lines", desk.set(1, 50), 101);
        Desk.due("pages", desk.count(4), 3);
        int[][] due = {{0, 0, 0}, {49, 0, 49}, {50, 1, 0}, {99, 1, 49}, {100, 2, 0}};
        for (int[] line : due) {
            Desk.due("page of line " + line[0], desk.line(line[0], 0), line[1]);
            Desk.due("place of line " + line[0], desk.line(line[0], 2), line[2]);
        }
    }

    /** It begins a new page if it would not be on one page otherwise. */
    private static void keep() {
        isSet("<a>1<A keep='1'>2 3</A>4</a>", 1, 3, "0.0 1|0.1 2|0.2 3|1.0 4|");
        isSet("<a>1 2<A keep='1'>3 4</A>5</a>", 1, 3, "0.0 1|0.1 2|1.0 3|1.1 4|1.2 5|");
        isSet("<a>1 2<A keep='1'>3</A>4</a>", 1, 3, "0.0 1|0.1 2|0.2 3|1.0 4|");
        // It begins a page anyway where the page before is full, and where there is none before.
        isSet("<a>1 2 3<A keep='1'>4 5</A></a>", 1, 3, "0.0 1|0.1 2|0.2 3|1.0 4|1.1 5|");
        isSet("<A keep='1'>1 2 3</A>", 1, 3, "0.0 1|0.1 2|0.2 3|");
        isSet("<a><A keep='1'>1 2</A><A keep='1'>3 4</A><A keep='1'>5</A></a>", 1, 3, "0.0 1|0.1 2|1.0 3|1.1 4|1.2 5|");
    }

    /** A BLOCK with an attribute keep whose STRING is 1. */
    private static void keptAttribute() {
        String[] none = {"keep=''", "keep='0'", "keep='11'", "keep=' 1'", "keep='1 '", "Keep='1'", "kee='1'", "keeps='1'",
            "keel='1'", "x='1'", "x='1' keep='2'", ""};
        for (String attributes : none) {
            isSet("<a>1 2<A " + attributes + ">3 4</A></a>", 1, 3, "0.0 1|0.1 2|0.2 3|1.0 4|");
        }
        String[] kept = {"keep='1'", "keep='&#49;'", "x='2' keep='1'", "keep='1' x='2'"};
        for (String attributes : kept) {
            isSet("<a>1 2<A " + attributes + ">3 4</A></a>", 1, 3, "0.0 1|0.1 2|1.0 3|1.1 4|");
        }
        // By default is an attribute, too.
        isSet("<!DOCTYPE a [<!ATTLIST A keep CDATA '1'>]><a>1 2<A>3 4</A></a>", 1, 3, "0.0 1|0.1 2|1.0 3|1.1 4|");
        isSet("<!DOCTYPE a [<!ATTLIST A keep CDATA '1'>]><a>1 2<A keep='0'>3 4</A></a>", 1, 3,
                "0.0 1|0.1 2|0.2 3|1.0 4|");
        // An ELEMENT that is no BLOCK is not kept, nor is what has a kept ELEMENT in it.
        isSet("<a>1 2 <b keep='1'>3 4</b></a>", 1, 3, "0.0 1|0.1 2|0.2 3|1.0 4|");
        String[] beside = {"<A><b keep='1'>3 4</b></A>", "<b keep='1'><A>3 4</A></b>", "<B keep='1'/><A>3 4</A>",
            "<b keep='1'/><A>3 4</A>", "<A>3 4</A><A keep='1'/>", "<A>3<B keep='1'>4</B></A>"};
        for (String elements : beside) {
            isSet("<a>1 2" + (elements.startsWith("<b") ? " " : "") + elements + "</a>", 1, 3, "0.0 1|0.1 2|0.2 3|1.0 4|");
        }
        // An ELEMENT keep is no attribute.
        isSet("<a>1<A><keep>1</keep> 2</A></a>", 1, 2, "0.0 1|0.1 1|1.0 2|");
    }

    /** That has n lines, n not above the height. */
    private static void keptHeights() {
        isSet("<a>1<A keep='1'>2 3 4</A></a>", 1, 3, "0.0 1|1.0 2|1.1 3|1.2 4|");
        isSet("<a>1<A keep='1'>2 3 4 5</A></a>", 1, 3, "0.0 1|0.1 2|0.2 3|1.0 4|1.1 5|");
        isSet("<a>1<A keep='1'>2</A>3</a>", 1, 1, "0.0 1|1.0 2|2.0 3|");
        isSet("<a>1<A keep='1'>2 3</A>4</a>", 1, 1, "0.0 1|1.0 2|2.0 3|3.0 4|");
        // The width says how many lines it has.
        isSet("<a>1<A keep='1'>2 3 4 5</A></a>", 3, 2, "0.0 1|1.0 2 3|1.1 4 5|");
        isSet("<a>1<A keep='1'>2 3 4 5</A></a>", 7, 2, "0.0 1|0.1 2 3 4 5|");
    }

    /** One that lies in another one that begins a page, or has no room to, is looked at likewise, when it begins. */
    private static void keptWithin() {
        // In one that begins a page: it has room there.
        isSet("<a>1<A keep='1'>2<B keep='1'>3 4</B></A></a>", 1, 3, "0.0 1|1.0 2|1.1 3|1.2 4|");
        isSet("<a>1 2<A keep='1'><B keep='1'>3 4</B>5</A>6</a>", 1, 3, "0.0 1|0.1 2|1.0 3|1.1 4|1.2 5|2.0 6|");
        // In one that has no room to.
        isSet("<a>1<A keep='1'>2 3<B keep='1'>4 5</B></A></a>", 1, 3, "0.0 1|0.1 2|0.2 3|1.0 4|1.1 5|");
        isSet("<a>1<A keep='1'>2<B keep='1'>3 4</B>5</A></a>", 1, 3, "0.0 1|0.1 2|1.0 3|1.1 4|1.2 5|");
        isSet("<a>1 2<A keep='1'><B keep='1'>3 4</B>5 6</A></a>", 1, 3, "0.0 1|0.1 2|1.0 3|1.1 4|1.2 5|2.0 6|");
        // In one that is not kept.
        isSet("<a>1<A>2<B keep='1'>3 4</B></A></a>", 1, 3, "0.0 1|0.1 2|1.0 3|1.1 4|");
        // One behind the other in one that has no room to.
        isSet("<A keep='1'><B keep='1'>1 2</B><B keep='1'>3 4</B><B keep='1'>5</B></A>", 1, 3,
                "0.0 1|0.1 2|1.0 3|1.1 4|1.2 5|");
        // Three that begin with the same line.
        isSet("<a>1 2<A keep='1'><B keep='1'><C keep='1'>3 4</C>5</B>6 7</A></a>", 1, 3,
                "0.0 1|0.1 2|1.0 3|1.1 4|1.2 5|2.0 6|2.1 7|");
    }

    private static void keptWithoutLines() {
        isSet("<a>1 2 3<A keep='1'/>4</a>", 1, 3, "0.0 1|0.1 2|0.2 3|1.0 4|");
        isSet("<a>1 2<A keep='1'/>3</a>", 1, 3, "0.0 1|0.1 2|0.2 3|");
        isSet("<a>1 2<A keep='1'> </A><A>3 4</A></a>", 1, 3, "0.0 1|0.1 2|0.2 3|1.0 4|");
        isSet("<A keep='1'/>", 1, 1, "");
    }

    /** Promise 13: the TEXT of its first byte. */
    private static void textOfLine() {
        Desk desk = Desk.taken("<a> <b>uv</b>w<!--c-->x y<c>z</c><d/></a>", 10);
        // A width, and then the TEXTS of the lines.
        int[][] due = {{1, 4, 4, 5, 6, 6, 8}, {2, 4, 5, 6}, {3, 4, 6, 6}, {4, 4, 6}, {6, 4, 6}, {7, 4}};
        for (int[] row : due) {
            desk.set(row[0], 9);
            for (int i = 1; i < row.length; i++) {
                Desk.due("TEXT of line " + (i - 1) + " in " + row[0], desk.line(i - 1, 3), row[i]);
            }
            Desk.due("lines in " + row[0], desk.count(3), row.length - 1);
        }
    }

    /** What was SET last alone counts. */
    private static void setAgain() {
        Desk desk = Desk.taken("<a>1 2<A keep='1'>3 4</A></a>", 6);
        String narrow = "0.0 1|0.1 2|1.0 3|1.1 4|";
        desk.set(1, 3);
        Desk.due("narrow", desk.lines(), narrow);
        desk.set(3, 1);
        Desk.due("wide", desk.lines(), "0.0 1 2|1.0 3 4|");
        desk.set(1, 50);
        Desk.due("high", desk.lines(), "0.0 1|0.1 2|0.2 3|0.3 4|");
        desk.set(1, 3);
        Desk.due("narrow again", desk.lines(), narrow);
        desk.read("<a>5 6 7 8</a>");
        desk.set(1, 3);
        Desk.due("another DOCUMENT", desk.lines(), "0.0 5|0.1 6|0.2 7|1.0 8|");
    }

    /** As many bytes, lines and BLOCKS as a DOCUMENT may have. */
    private static void most() {
        Desk desk = Desk.taken("<a>" + Desk.repeat("x", 2000) + "</a>", 3);
        Desk.due("lines", desk.set(1, 1), 2000);
        Desk.due("pages", desk.count(4), 2000);
        Desk.due("the last page", desk.line(1999, 0), 1999);
        Desk.due("the last byte", desk.at(1999, 0), 'x');
        Desk.due("its TEXT", desk.line(1999, 3), 2);
        Desk.due("behind it", desk.line(2000, 0), -9);
        Desk.due("lines", desk.set(60, 50), 34);
        Desk.due("the last line", desk.line(33, 1), 20);
        String in = Desk.numbered("<A keep='1'>%", "", 10) + Desk.numbered("<A keep='1'>1%", "", 10)
                + Desk.numbered("<A keep='1'>2%", "", 10);
        desk = Desk.taken(in + Desk.repeat("</A>", 30), 91);
        Desk.due("lines", desk.set(2, 20), 30);
        Desk.due("pages", desk.count(4), 2);
        Desk.due("the page of the 10th", desk.line(9, 0), 0);
        Desk.due("the page of the 11th", desk.line(10, 0), 1);
        Desk.due("the page of the last", desk.line(29, 0), 1);
    }
}
