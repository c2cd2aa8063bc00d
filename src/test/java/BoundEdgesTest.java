/** BOUND: of each number that may not be passed the last one that may be, and the first one that may not. */
public final class BoundEdgesTest {
    private static final String LONGEST = "abcdefghij-123456.9_";

    public static void main(String[] args) {
        nameLength();
        tokenLength();
        nodes();
        nodesByDefault();
        depth();
        attributes();
        attributesByDefault();
        elementDeclarations();
        rules();
        specNames();
        groups();
        tokens();
        bytes();
        bytesByDefault();
        orderOfChecks();
        readingGoesOn();
        asManyNames();
        asManyRules();
        asManyTokens();
        Desk.end();
    }

    private static void nameLength() {
        String[] texts = {
            "<!DOCTYPE %n []><a/>",
            "<!DOCTYPE a [<!ELEMENT %n ANY>]><a/>",
            "<!DOCTYPE a [<!ELEMENT a (#PCDATA|%n)*>]><a/>",
            "<!DOCTYPE a [<!ELEMENT a (b|%n)>]><a/>",
            "<!DOCTYPE a [<!ELEMENT a ((b,%n?)*)>]><a/>",
            "<!DOCTYPE a [<!ATTLIST %n>]><a/>",
            "<!DOCTYPE a [<!ATTLIST a %n CDATA #IMPLIED>]><a/>",
        };
        for (String text : texts) {
            Desk.taken(text.replace("%n", LONGEST), 2);
            Desk.bound(text.replace("%n", "^x" + LONGEST));
        }
        Desk.due("the longest NAME", Desk.taken("<" + LONGEST + "/>", 2).name(1), LONGEST);
        Desk.due("its bytes", Desk.taken("<" + LONGEST + "></" + LONGEST + ">", 2).node(1, 2), 20);
        Desk.due("its bytes", Desk.taken("<a " + LONGEST + "=''/>", 3).node(2, 2), 20);
        Desk.bound("<^x" + LONGEST + "/>");
        Desk.bound("<^x" + LONGEST);
        Desk.bound("<^x" + Desk.repeat(LONGEST, 200) + "/>");
        Desk.bound("<a ^x" + LONGEST + "=''/>");
        Desk.bound("<a ^x" + LONGEST + "!");
        Desk.bound("<" + LONGEST + "></^" + LONGEST + "x>");
    }

    private static void tokenLength() {
        String head = "<!DOCTYPE a [<!ATTLIST a x (";
        Desk.taken(head + LONGEST + "|" + Desk.repeat("1", 20) + ") #IMPLIED>]><a/>", 2);
        Desk.bound(head + "^x" + LONGEST + ") #IMPLIED>]><a/>");
        Desk.bound(head + "b | ^" + Desk.repeat("1", 21) + ") #IMPLIED>]><a/>");
    }

    /** The 601st NODE, as an ELEMENT, an attribute, a TEXT. */
    private static void nodes() {
        String b = "<b/>";
        Desk.taken("<a>" + Desk.repeat(b, 598) + "</a>", 600);
        Desk.bound("<a>" + Desk.repeat(b, 598) + "<^b/></a>");
        Desk.taken("<a>" + Desk.repeat(b, 596) + "<b c=''/></a>", 600);
        Desk.bound("<a>" + Desk.repeat(b, 597) + "<b ^c=''/></a>");
        Desk.taken("<a>" + Desk.repeat(b, 597) + "x</a>", 600);
        Desk.taken("<a>" + Desk.repeat(b, 597) + "x&lt;&#32; yz</a>", 600);
        Desk.bound("<a>" + Desk.repeat(b, 598) + "^x</a>");
        Desk.bound("<a>" + Desk.repeat(b, 598) + "^&lt;</a>");
        Desk.bound("<a>" + Desk.repeat(b, 597) + "x<!---->^y</a>");
        // COMMENTS are no NODES, and what is not a PIECE begins none.
        Desk.taken("<a>" + Desk.repeat(b, 598) + "<!---->" + "<!--x--></a><!---->", 600);
        Desk.ill("<a>" + Desk.repeat(b, 598) + "^&x;</a>");
        Desk.ill("<a>" + Desk.repeat(b, 598) + "^");
        Desk desk = Desk.taken("<a>" + Desk.repeat(b, 598) + "</a>", 600);
        Desk.due("the last NODE", desk.node(599, 0), 1);
        Desk.due("behind it", desk.node(600, 0), -9);
        Desk.due("NODES in the outermost ELEMENT", desk.node(1, 5), 598);
        Desk.due("all NODES but the ROOT", desk.select(0, "//*"), 599);
        Desk.due("the last one told", desk.told(598), 599);
        Desk.due("behind it", desk.told(599), -1);
    }

    /** An attribute by default at the '>' or '/>' of the ELEMENT. */
    private static void nodesByDefault() {
        String head = "<!DOCTYPE a [<!ATTLIST c x CDATA 'v' y CDATA #FIXED ''>]><a>";
        Desk.taken(head + Desk.repeat("<b/>", 595) + "<c/></a>", 600);
        Desk.taken(head + Desk.repeat("<b/>", 595) + "<c ></c></a>", 600);
        Desk.bound(head + Desk.repeat("<b/>", 596) + "<c^/></a>");
        Desk.bound(head + Desk.repeat("<b/>", 596) + "<c ^></c></a>");
        Desk.bound(head + Desk.repeat("<b/>", 597) + "<c \n^/></a>");
        Desk.ill(head + Desk.repeat("<b/>", 597) + "<c^");
        Desk.bound(head + Desk.repeat("<b/>", 598) + "<^c/></a>");
    }

    /** The 31st ELEMENT within one another, at its NAME. */
    private static void depth() {
        String in = Desk.repeat("<a>", 29);
        String out = Desk.repeat("</a>", 29);
        Desk desk = Desk.taken(in + "<b/>" + out, 31);
        Desk.due("depth", desk.count(6), 30);
        Desk.taken(in + "<b></b><c>x</c><b/>" + out, 34);
        Desk.bound(in + "<b><^c/></b>" + out);
        Desk.bound(in + "<b>x<!----><^c></c></b>" + out);
        Desk.bound(in + "<b/><b><^c");
    }

    private static void attributes() {
        String seven = Desk.numbered(" n%='v'", "", 7);
        Desk desk = Desk.taken("<a" + seven + " last='w'/>", 10);
        Desk.due("attributes", desk.node(1, 4), 8);
        Desk.due("the last one", desk.string(9), "w");
        Desk.bound("<a" + seven + " last='w' ^more='w'/>");
        Desk.bound("<a" + seven + " last='w' ^more/>");
        Desk.bound("<b><a" + seven + " last='w'/><a" + seven + " last='' ^n9=''/></b>");
        Desk.taken("<b" + seven + " x=''><a" + seven + " x=''/></b>", 19);
    }

    private static void attributesByDefault() {
        String head = "<!DOCTYPE a [<!ATTLIST a " + Desk.numbered("d% CDATA 'v'", " ", 8) + ">]>";
        Desk desk = Desk.taken(head + "<a/>", 10);
        Desk.due("attributes", desk.node(1, 4), 8);
        Desk.due("the last one by default", desk.name(9), "d7");
        Desk.taken(head + "<a d3=''/>", 10);
        Desk.taken(head + "<a" + Desk.numbered(" d%=''", "", 8) + "></a>", 10);
        Desk.bound(head + "<a x=''^/>");
        Desk.bound(head + "<a x='' ^></a>");
        Desk.bound(head + "<b><a x='' d7=''\n^/></b>");
        Desk.ill(head + "<a x='' ^!");
        Desk.bound(head + "<a" + Desk.numbered(" e%=''", "", 8) + "^/>");
        String nine = "<!DOCTYPE a [<!ATTLIST a " + Desk.numbered("d% CDATA 'v'", " ", 9) + ">]>";
        Desk.bound(nine + "<a^/>");
        Desk.taken(nine + "<b/>", 2);
        // The 10th RULE brings its attribute like the first.
        String last = "<!DOCTYPE a [<!ATTLIST a " + Desk.numbered("d% CDATA #IMPLIED", " ", 9) + " x CDATA 'v'>]>";
        Desk.due("of the 10th RULE", Desk.taken(last + "<a/>", 3).string(2), "v");
        String implied = "<!DOCTYPE a [<!ATTLIST a " + Desk.numbered("d% CDATA #IMPLIED", " ", 10) + ">]>";
        Desk.taken(implied + "<a/>", 2);
    }

    /** The 31st '<!ELEMENT', at its sign. */
    private static void elementDeclarations() {
        String thirty = "<!DOCTYPE a [" + Desk.numbered("<!ELEMENT e% (#PCDATA)>", " ", 30);
        Desk desk = Desk.taken(thirty + "<!----><!ATTLIST a> ]><e29>x</e29>", 3);
        Desk.due("declared", desk.count(1), 30);
        Desk.due("the last one counts", desk.allFindings(), "6:1");
        Desk.bound(thirty + "^<!ELEMENT e30 ANY>]><a/>");
        Desk.bound(thirty + "<!----> ^<!ELEMENT");
        Desk.bound(thirty + "<!ATTLIST a>^<!ELEMENT?");
        Desk.ill(thirty + "^<!ELEMEN");
        // Those declared again count, too.
        String again = "<!DOCTYPE a [" + Desk.repeat("<!ELEMENT a ANY>", 30);
        Desk.due("declared again", Desk.taken(again + "]><a/>", 2).count(1), 30);
        Desk.bound(again + "^<!ELEMENT a ANY>]><a/>");
    }

    /** The 11th RULE that stands for a NAME. */
    private static void rules() {
        String ten = "<!DOCTYPE a [<!ATTLIST a " + Desk.numbered("r% CDATA #IMPLIED", " ", 10);
        Desk.due("RULES", Desk.taken(ten + ">]><a/>", 2).count(2), 10);
        Desk.bound(ten + " ^r10 CDATA #IMPLIED>]><a/>");
        Desk.bound(ten + " ^r10>");
        Desk.bound(ten + "><!ATTLIST a ^more CDATA #IMPLIED>]><a/>");
        // One for an attribute that has one counts as none; those for another NAME count for it.
        Desk.due("RULES", Desk.taken(ten + " r0 ID #IMPLIED r9 CDATA 'v'>]><a/>", 2).count(2), 10);
        Desk.bound(ten + " r0 ID #IMPLIED ^x CDATA #IMPLIED>]><a/>");
        String twice = "<!DOCTYPE a [<!ATTLIST a r0 ID 'v' r0 ID 'v' " + ten.substring(ten.indexOf("r0"));
        Desk.due("RULES", Desk.taken(twice + ">]><b/>", 2).count(2), 10);
        String other = ten + "><!ATTLIST b " + Desk.numbered("r% CDATA #IMPLIED", " ", 10);
        Desk.due("RULES", Desk.taken(other + ">]><a/>", 2).count(2), 20);
        Desk.bound(other + " ^s ID #IMPLIED>]><a/>");
    }

    /** The 41st NAME of a SPEC. */
    private static void specNames() {
        String head = "<!DOCTYPE a [<!ELEMENT a ";
        String forty = Desk.numbered("b%", ",", 40);
        Desk.taken(head + "(" + forty + ")>]><a/>", 2);
        Desk.bound(head + "(" + forty + ",^c)>]><a/>");
        Desk.bound(head + "(" + forty + ",^c");
        Desk.taken(head + "(#PCDATA|" + forty.replace(',', '|') + ")*>]><a/>", 2);
        Desk.bound(head + "(#PCDATA|" + forty.replace(',', '|') + "|^c)*>]><a/>");
        Desk.taken(head + "((" + Desk.numbered("b%", "|", 20) + ")*," + Desk.numbered("c%", ",", 20) + ")>]><a/>", 2);
        Desk.bound(head + "((" + Desk.numbered("b%", "|", 20) + ")*," + Desk.numbered("c%", ",", 20) + ",(^d))>]><a/>");
        // The same NAME again is one more, and each SPEC counts its own.
        Desk.taken(head + "(" + Desk.repeat("b,", 39) + "b)>]><a/>", 2);
        Desk.bound(head + "(" + Desk.repeat("b,", 40) + "^b)>]><a/>");
        Desk.taken(head + "(" + forty + ")><!ELEMENT b (" + forty + ")>]><a/>", 2);
        // The last of them is judged like the first.
        Desk desk = Desk.taken(head + "(" + Desk.repeat("b,", 39) + "c)>]><a>" + Desk.repeat("<b/>", 39) + "<c/></a>", 42);
        Desk.due("the first FINDING", desk.finding(0, 0), 7);
        desk = Desk.taken(head + "(" + Desk.numbered("b%", "|", 39) + "|b0)>]><a/>", 2);
        Desk.due("a 40th NAME that stood", desk.allFindings(), "2:0 8:1");
        desk = Desk.taken(head + "(#PCDATA|" + Desk.numbered("b%", "|", 39) + "|b0)*>]><a/>", 2);
        Desk.due("a 40th NAME that stood", desk.allFindings(), "3:0");
    }

    /** The 7th GROUP within one another, at its sign. */
    private static void groups() {
        String head = "<!DOCTYPE a [<!ELEMENT a ";
        Desk.taken(head + "((((((b))))))>]><a/>", 2);
        Desk.bound(head + "((((((^(b)))))))>]><a/>");
        Desk.bound(head + "((((((^(");
        Desk.bound(head + "( ( ( ( ( ( b ), ( c, ^(");
        Desk.bound(head + "(b,(((((c,^(d");
        // Those side by side do not count.
        Desk.taken(head + "((b),(c),(d),(e),(f),(g),(h))>]><a/>", 2);
        Desk.taken(head + "((((((b)?)+,(c)))),((d)),e)>]><a/>", 2);
    }

    private static void tokens() {
        String head = "<!DOCTYPE a [<!ATTLIST a x (";
        Desk.taken(head + "1|2|3|4|5|6|7|8) '8'>]><a/>", 3);
        Desk.bound(head + "1|2|3|4|5|6|7|8|^9) '8'>]><a/>");
        Desk.bound(head + "1|2|3|4|5|6|7|8 | ^9");
        Desk.ill(head + "1|2|3|4|5|6|7|8|^) '8'>]><a/>");
        // The same one again is one more, and each TYPE counts its own.
        Desk.bound(head + Desk.repeat("b|", 8) + "^b) #IMPLIED>]><a/>");
        Desk.taken(head + "1|2|3|4|5|6|7|8) '8' y (1|2|3|4|5|6|7|8) '1'>]><a/>", 4);
        Desk.bound(head + "1) '1' x (1|2|3|4|5|6|7|8|^9) '8'>]><a/>");
        // The last of them is one of them.
        Desk desk = Desk.taken(head + "1|2|3|4|5|6|7|8) '8'>]><a x='9'/>", 3);
        Desk.due("the last TOKEN", desk.allFindings(), "7:1 10:2");
    }

    /** 2000 bytes of VALUES' and texts' PIECES together. */
    private static void bytes() {
        String most = Desk.repeat("x", 2000);
        String less = most.substring(1);
        Desk.due("a TEXT", Desk.taken("<a>" + most + "</a>", 3).node(0, 3), 2000);
        Desk.bound("<a>" + most + "^x</a>");
        Desk.bound("<a>" + most + "^&lt;</a>");
        Desk.bound("<a>" + less + "&#65;^&#66;</a>");
        Desk.ill("<a>" + most + "^&x;</a>");
        Desk.ill("<a>" + most + "^\u0000</a>");
        Desk.due("a VALUE", Desk.taken("<a b='" + most + "'/>", 3).node(2, 3), 2000);
        Desk.bound("<a b='" + most + "^x'/>");
        Desk.bound("<a b='" + less + "&lt;^&lt;'/>");
        Desk.taken("<a b='" + most + "' c=''></a>", 4);
        Desk.bound("<a b='" + most + "' c='^ '></a>");
        Desk.bound("<a b='" + most + "'>^ </a>");
        Desk.taken("<a b='" + less + "'>x</a>", 4);
        Desk.bound("<a b='" + less + "'>x<!---->^y</a>");
        Desk.bound("<a>" + less + "<b/>x<b c='^v'/></a>");
        // A REF is one byte, and nothing else counts: NAMES, TOKENS, COMMENTS, S in tags.
        Desk.taken("<a>" + Desk.repeat("&#9;", 1000) + most.substring(1000) + "</a>", 3);
        Desk.taken("<!--" + less + "--><!DOCTYPE a [<!ATTLIST a x (t) #IMPLIED>]><a \n>" + most + "</a >", 3);
    }

    private static void bytesByDefault() {
        String most = Desk.repeat("x", 2000);
        String head = "<!DOCTYPE a [<!ATTLIST b x CDATA '" + most;
        Desk.taken(head + "'>]><a/>", 2);
        Desk.bound(head + "^x'>]><a/>");
        Desk.bound(head + "'>]><a>^x</a>");
        Desk.bound(head + "' y CDATA #FIXED '^v'>]><a/>");
        // An attribute by default takes no bytes of its own.
        Desk desk = Desk.taken(head + "'>]><a><b/><b/></a>", 6);
        Desk.due("STRING by default", desk.node(3, 3), 2000);
        Desk.due("its last byte", desk.string(5, 1999), 'x');
        Desk.due("behind it", desk.string(5, 2000), -1);
        // A VALUE of a RULE that counts as none is a VALUE.
        Desk.bound("<!DOCTYPE a [<!ATTLIST b x CDATA 'v' x CDATA '" + most.substring(1) + "'>]><a>^x</a>");
    }

    /** Of one NAME: first its length, then whether it stood already, then what is counted, NODES last. */
    private static void orderOfChecks() {
        String eight = "<a" + Desk.numbered(" n%=''", "", 8);
        Desk.illByNames(eight + " ^n0=''/>");
        Desk.illByNames(eight + " ^n7=''/>");
        Desk.bound(eight + " ^x" + LONGEST + "=''/>");
        Desk.illByNames("<a>" + Desk.repeat("<b/>", 596) + "<b c='' ^c=''/></a>");
        Desk.bound("<a></^x" + LONGEST + ">");
        Desk.illByNames("<a></^" + LONGEST + ">");
        Desk.illByNames("<a>" + Desk.repeat("<b/>", 598) + "</^b>");
        Desk.bound("<!DOCTYPE a [<!ATTLIST a x (1|2|3|4|5|6|7|8|^" + Desk.repeat("9", 21) + ") #IMPLIED>]><a/>");
    }

    /** READING goes from the first byte on: what is wrong first is what is told. */
    private static void readingGoesOn() {
        Desk.ill("<a b=^c></d><x" + LONGEST + "/>");
        Desk.bound("<^x" + LONGEST + "><a></b>");
        Desk.illByNames("<a></^b><x" + LONGEST + ">&");
        Desk.illByNames("<a></^b &");
        Desk.illByNames("<a x='' ^x &");
        Desk.bound(Desk.repeat("<a>", 30) + "<^a x='' x=''>&");
    }

    private static String letter(int i) {
        String letters = "ABCDEFGHIJKLMNOPQRSTUVWXYZabcdefghijklmnopqrstuvwxyz_";
        return letters.substring(i, i + 1);
    }

    /** No number is told for NAMES in all: as many as THE TAPE can hold are kept apart. */
    private static void asManyNames() {
        StringBuilder text = new StringBuilder("<!DOCTYPE a [");
        for (int spec = 0; spec < 30; spec++) {
            text.append("<!ELEMENT ").append(letter(spec)).append(" (");
            for (int i = 0; i < 40; i++) {
                text.append(i == 0 ? "" : "|").append(letter(i)).append(letter(spec));
            }
            text.append(")>");
        }
        text.append("]><a>");
        for (int i = 0; i < 300; i++) {
            text.append('<').append(letter(40 + i % 13)).append(letter(i / 13)).append("/>");
        }
        text.append("</a>");
        Desk desk = Desk.taken(text.toString(), 302);
        // Neither 1 nor 2: all NAMES are different. Of the ELEMENTS a alone is declared.
        Desk.due("how many FINDINGS", desk.findings(), 301);
        Desk.due("the first", desk.finding(0, 0), 8);
        Desk.due("the last", desk.finding(300, 1), 301);
        for (int i = 0; i < 300; i += 23) {
            Desk.due("NAME of " + (i + 2), desk.name(i + 2), letter(40 + i % 13) + letter(i / 13));
        }
        Desk.due("the last NAME", desk.path(1, letter(40 + 299 % 13) + letter(299 / 13)), "301");
        Desk.due("a NAME of a SPEC alone", desk.path(1, "AA"), "");
    }

    /** Nor for RULES in all. */
    private static void asManyRules() {
        StringBuilder text = new StringBuilder("<!DOCTYPE a [");
        for (int list = 0; list < 61; list++) {
            text.append("<!ATTLIST ").append(list < 52 ? letter(list) : "a" + letter(list - 52));
            for (int i = 0; i < 10; i++) {
                text.append(' ').append(letter(i)).append(" ID ''");
            }
            text.append('>');
        }
        Desk desk = Desk.taken(text + "<!ATTLIST _ A CDATA 'v' B (w) 'x'>]><_/>", 4);
        Desk.due("RULES", desk.count(2), 612);
        Desk.due("how many FINDINGS", desk.findings(), 2 * 610 + 3);
        Desk.due("of the last RULE", desk.finding(1220, 0), 5);
        Desk.due("its number", desk.finding(1220, 1), 611);
        Desk.due("what comes by the last one", desk.string(3), "x");
    }

    /** Nor for TOKENS in all. */
    private static void asManyTokens() {
        StringBuilder text = new StringBuilder("<!DOCTYPE a [");
        for (int list = 0; list < 22; list++) {
            text.append("<!ATTLIST ").append(letter(list));
            for (int i = 0; i < 10; i++) {
                text.append(' ').append(letter(i)).append(" (1|2|3|4|5|6|7|8) '").append(i < 9 ? 8 : 9).append('\'');
            }
            text.append('>');
        }
        Desk desk = Desk.taken(text + "]><a/>", 2);
        Desk.due("RULES", desk.count(2), 220);
        Desk.due("how many FINDINGS", desk.findings(), 23);
        for (int i = 0; i < 22; i++) {
            Desk.due("FINDING", desk.finding(i, 1), 10 * i + 9);
        }
    }
}
