/** NODES: how they are numbered, what lies in them, and what their STRINGS are. */
public final class NodeEdgesTest {
    public static void main(String[] args) {
        root();
        attributesFirst();
        byDefault();
        texts();
        strings();
        within();
        depth();
        Desk.end();
    }

    /** Each NODE but the ROOT: its kind, the NODE in which it is, its NAME, its STRING; + if it came by default. */
    private static void hasNodes(String text, String... due) {
        Desk desk = new Desk();
        Desk.due("NODES of " + text, desk.read(text), due.length + 1);
        String[] kinds = {"root", "element", "attribute", "text"};
        for (int k = 1; k <= due.length; k++) {
            int kind = desk.node(k, 0);
            String got = (kind < 0 || kind > 3 ? "" + kind : kinds[kind]) + " in " + desk.node(k, 1) + " " + desk.name(k)
                    + "=" + desk.string(k) + (desk.node(k, 6) == 1 ? "+" : desk.node(k, 6) == 0 ? "" : "?");
            Desk.due("NODE " + k + " of " + text, got, due[k - 1]);
            Desk.due("bytes of its NAME", desk.node(k, 2), desk.name(k).length());
            Desk.due("bytes of its STRING", desk.node(k, 3), desk.string(k).length());
        }
    }

    private static void root() {
        Desk desk = Desk.taken("<!--c--> <a x='y'>z</a> ", 4);
        int[] due = {0, -1, 0, 1, 0, 1, 0};
        for (int what = 0; what <= 6; what++) {
            Desk.due("the ROOT, " + what, desk.node(0, what), due[what]);
        }
        Desk.due("its STRING", desk.string(0), "z");
        Desk.due("its NAME", desk.name(0), "");
    }

    /** ELEMENTS, right behind each its attributes, as they begin in the text. */
    private static void attributesFirst() {
        hasNodes("<a/>", "element in 0 a=");
        hasNodes("<a z='1' b='2'>t<c y='3'/>u</a>", "element in 0 a=tu", "attribute in 1 z=1", "attribute in 1 b=2",
                "text in 1 =t", "element in 1 c=", "attribute in 5 y=3", "text in 1 =u");
        hasNodes("<a><b><c/></b><d/></a>", "element in 0 a=", "element in 1 b=", "element in 2 c=", "element in 1 d=");
    }

    /** As they stand, then those by default, as their RULES were told. */
    private static void byDefault() {
        String head = "<!DOCTYPE a [<!ATTLIST a p CDATA '1' q CDATA #FIXED '2'><!ATTLIST b p CDATA 'x'>"
                + "<!ATTLIST a r CDATA #IMPLIED s CDATA #REQUIRED o ID '3'>]>";
        hasNodes(head + "<a/>", "element in 0 a=", "attribute in 1 p=1+", "attribute in 1 q=2+", "attribute in 1 o=3+");
        hasNodes(head + "<a o='4' z='' p='5'/>", "element in 0 a=", "attribute in 1 o=4", "attribute in 1 z=",
                "attribute in 1 p=5", "attribute in 1 q=2+");
        hasNodes(head + "<a q='2' p='1' o='3'/>", "element in 0 a=", "attribute in 1 q=2", "attribute in 1 p=1",
                "attribute in 1 o=3");
        hasNodes(head + "<b><b/>t<c/></b>", "element in 0 b=t", "attribute in 1 p=x+", "element in 1 b=",
                "attribute in 3 p=x+", "text in 1 =t", "element in 1 c=");
        hasNodes("<!DOCTYPE a [<!ATTLIST a e CDATA ''>]><a></a>", "element in 0 a=", "attribute in 1 e=+");
        // RULES are by NAMES as they are, and none is left over from a DOCUMENT before.
        hasNodes(head + "<A/>", "element in 0 A=");
        Desk desk = new Desk();
        desk.read(head + "<a/>");
        desk.read(head + "<a/>");
        Desk.due("without RULES", desk.read("<a/>"), 2);
        Desk.due("RULES", desk.count(2), 0);
    }

    /** TEXTS: PIECES of one CONTENT without anything between, one at least. */
    private static void texts() {
        hasNodes("<a></a>", "element in 0 a=");
        hasNodes("<a>x</a>", "element in 0 a=x", "text in 1 =x");
        hasNodes("<a> </a>", "element in 0 a= ", "text in 1 = ");
        hasNodes("<a>x&lt;y &#65;</a>", "element in 0 a=x<y A", "text in 1 =x<y A");
        hasNodes("<a>x<!---->y</a>", "element in 0 a=xy", "text in 1 =x", "text in 1 =y");
        hasNodes("<a><!----><!----></a>", "element in 0 a=");
        hasNodes("<a>x<b/>y</a>", "element in 0 a=xy", "text in 1 =x", "element in 1 b=", "text in 1 =y");
        hasNodes("<a><b>x</b>y</a>", "element in 0 a=xy", "element in 1 b=x", "text in 2 =x", "text in 1 =y");
    }

    /** Of an ELEMENT, the ROOT: those of all TEXTS within, in order. */
    private static void strings() {
        hasNodes("<a>1<b x='9'>2<c>3</c>4</b>5<d>6</d></a>", "element in 0 a=123456", "text in 1 =1", "element in 1 b=234",
                "attribute in 3 x=9", "text in 3 =2", "element in 3 c=3", "text in 6 =3", "text in 3 =4", "text in 1 =5",
                "element in 1 d=6", "text in 10 =6");
        hasNodes("<a><b/>x<b/></a>", "element in 0 a=x", "element in 1 b=", "text in 1 =x", "element in 1 b=");
    }

    /** 4 attributes, 5 NODES right in it (attributes aside). */
    private static void within() {
        Desk desk = Desk.taken("<!DOCTYPE a [<!ATTLIST a d CDATA ''>]><a x='' y=''>t<b><c/>u</b><!----><b/>v</a>", 11);
        int[] attributes = {0, 3, 0, 0, 0, 0, 0, 0, 0, 0, 0};
        int[] nodes = {1, 4, 0, 0, 0, 0, 2, 0, 0, 0, 0};
        for (int k = 0; k < 11; k++) {
            Desk.due("attributes of " + k, desk.node(k, 4), attributes[k]);
            Desk.due("NODES in " + k, desk.node(k, 5), nodes[k]);
        }
    }

    /** Promise 15: depth of the innermost ELEMENT. */
    private static void depth() {
        String[] texts = {"<a/>", "<a x=''>t</a>", "<a><b/></a>", "<a><b><c/></b><d/></a>", "<a><b/><c><d/></c></a>"};
        int[] due = {1, 1, 2, 3, 3};
        for (int i = 0; i < texts.length; i++) {
            Desk desk = new Desk();
            desk.read(texts[i]);
            Desk.due("depth of " + texts[i], desk.count(6), due[i]);
            desk.read("<a>" + texts[i]);
            Desk.due("depth after a refused text", desk.count(6), due[i]);
            desk.read("<a/>");
            Desk.due("depth of another one", desk.count(6), 1);
        }
    }
}
