/** Promises 8 and 9: findings and finding. */
public final class FindingTest {
    public static void main(String[] args) {
        calls();
        declarations();
        determinism();
        outermost();
        contents();
        groups();
        attributes();
        order();
        Desk.end();
    }

    private static void judged(String declarations, String element, String due) {
        Desk desk = new Desk();
        String text = "<!DOCTYPE a [" + declarations + "]>" + element;
        if (desk.read(text) < 0) {
            Desk.due("read of " + text, desk.place(), -1);
        }
        Desk.due("findings of " + text, desk.allFindings(), due);
    }

    private static void calls() {
        Desk desk = Desk.taken("<a/>", 2);
        Desk.due("without a DOCTYPE", desk.findings(), -1);
        Desk.due("no FINDING", desk.finding(0, 0), -9);
        desk.read("<!DOCTYPE a []><b x=''/>");
        Desk.due("with a DOCTYPE", desk.findings(), 3);
        Desk.due("all", desk.allFindings(), "6:1 7:1 9:2");
        Desk.due("another what", desk.finding(0, 2), -9);
        Desk.due("another what", desk.finding(0, -1), -9);
        Desk.due("one too many", desk.finding(3, 0), -9);
        Desk.due("below 0", desk.finding(-1, 0), -9);
        desk.read("<b></c>");
        Desk.due("the DOCUMENT stays", desk.findings(), 3);
        String ids = "<!DOCTYPE a [<!ELEMENT a ANY><!ATTLIST a i ID #IMPLIED>]><a i='x'><a i='y'/></a>";
        for (int turn = 0; turn < 4; turn++) {
            desk.read(ids);
            Desk.due("an ID of the DOCUMENT before is none", desk.allFindings(), "");
        }
        desk.read("<b/>");
        Desk.due("another DOCUMENT", desk.findings(), -1);
        Desk.due("another DOCUMENT", desk.finding(0, 0), -9);
    }

    private static void declarations() {
        judged("<!ELEMENT a EMPTY><!ELEMENT b ANY><!ELEMENT a ANY>", "<a/>", "1:2");
        judged("<!ELEMENT a EMPTY><!ELEMENT a ANY>", "<a>x</a>", "1:1 8:1");
        judged("<!ELEMENT a ANY><!ELEMENT a (b|b)>", "<a/>", "1:1 2:1");
        judged("<!ELEMENT a (#PCDATA|b|c|b|c)*>", "<a/>", "3:0");
        judged("<!ELEMENT a (#PCDATA|b|c)*>", "<a/>", "");
        judged("<!ELEMENT a ANY><!ATTLIST a x ID #IMPLIED y ID #IMPLIED>", "<a/>", "4:1");
        judged("<!ELEMENT a ANY><!ATTLIST a x ID #IMPLIED><!ATTLIST b x ID #REQUIRED>", "<a/>", "");
        judged("<!ELEMENT a ANY><!ATTLIST b x ID 'y'>", "<a/>", "4:0");
        judged("<!ELEMENT a ANY><!ATTLIST b x ID #FIXED 'y z'>", "<a/>", "4:0 5:0");
        judged("<!ELEMENT a ANY><!ATTLIST b x ID #IMPLIED y ID '1'>", "<a/>", "4:1 5:1");
        judged("<!ELEMENT a ANY><!ATTLIST b x (p|q) 'r' y (p|q) 'q' z (p|q) #FIXED ''>", "<a/>", "5:0 5:2");
        judged("<!ELEMENT a ANY><!ATTLIST b x (pp|q) 'p' y (p) 'pp' z (p|qq) 'qq' k CDATA '&lt;'>", "<a/>", "5:0 5:1");
        // A RULE for an attribute that has one counts nowhere.
        judged("<!ELEMENT a ANY><!ATTLIST b x CDATA 'y' x ID '1' y (p) 'q'>", "<a/>", "5:1");
        judged("<!ELEMENT a ANY><!ATTLIST b i ID #IMPLIED i ID #IMPLIED>", "<a/>", "");
        // Declarations are judged as they stand.
        judged("<!ATTLIST a x (p) 'q'><!ELEMENT a ANY><!ATTLIST a y (p) 'q'><!ELEMENT a (b|b)>", "<a/>",
                "5:0 5:1 1:1 2:1");
        judged("<!ELEMENT a (b|b)*><!ATTLIST a x (p) 'q'><!ELEMENT c (#PCDATA|b|b)*>", "<a/>", "2:0 5:0 3:1");
    }

    private static void determinism() {
        String[] fine = {"(b)", "(b*)*", "(b+)?", "(b,b)", "(b?,c?,d?)", "((b,c)|(d,c))", "(b,(c|d)*,b)", "((b|c)*,d)",
            "(b,c?,b)"};
        for (String spec : fine) {
            judged("<!ELEMENT a ANY><!ELEMENT x " + spec + ">", "<a/>", "");
        }
        String[] poor = {"(b|b)", "(b?,b)", "(b*,b)", "(b+,b)", "((b,c)|(b,d))", "((b|c)*,b)", "(b,(c?,d?)*,c)",
            "((b?,c)*,b)", "(b,(c,b?)+,b)"};
        for (String spec : poor) {
            judged("<!ELEMENT a ANY><!ELEMENT x " + spec + ">", "<a/>", "2:1");
        }
    }

    private static void outermost() {
        judged("<!ELEMENT b EMPTY>", "<b/>", "6:1");
        judged("<!ELEMENT a EMPTY>", "<a/>", "");
        judged("", "<a/>", "7:1");
    }

    private static void contents() {
        String all = "<!ELEMENT a ANY><!ELEMENT e EMPTY><!ELEMENT p (#PCDATA)><!ELEMENT m (#PCDATA|e|u)*>";
        judged(all, "<a>x<e/> <p/></a>", "");
        judged(all, "<a><u/></a>", "8:1 7:2");
        judged(all, "<a><e></e><e><!--c--></e></a>", "");
        judged(all, "<a><e> </e></a>", "8:2");
        judged(all, "<a><e><e/></e></a>", "8:2");
        judged(all, "<a><p>x</p><p/></a>", "");
        judged(all, "<a><p>x<e/></p></a>", "8:2");
        judged(all, "<a><m/><m>x<e/>y<e/></m></a>", "");
        judged(all, "<a><m><u/></m></a>", "7:3");
        judged(all, "<a><m><e/><p/></m></a>", "8:2");
    }

    private static void groups() {
        String rest = "<!ELEMENT b EMPTY><!ELEMENT c EMPTY><!ELEMENT d EMPTY>";
        String[][] fitting = {
            {"(b)", "<b/>"}, {"(b)", " <b/>\n"}, {"(b)", "<b/><!--c-->"}, {"(b?)", ""}, {"(b*)", "<b/><b/><b/>"},
            {"(b,c)", "<b/><c/>"}, {"(b|c)", "<c/>"}, {"(b|c)+", "<b/><c/><b/>"}, {"(b,(c|d)*,b)", "<b/><d/><c/><b/>"},
            {"((b,c)|(b,d))", "<b/><d/>"}, {"((b?,c?)+)", ""}, {"(b*,b)", "<b/><b/>"}, {"(b,c?,d)", "<b/><d/>"},
            {"((b,c)+)", "<b/><c/><b/><c/>"}, {"(b)*", " "}, {"(b?|c)", ""}, {"(b|c*)", ""}, {"(b|c|d?)", "<c/>"},
        };
        for (String[] pair : fitting) {
            String found = pair[0].equals("((b,c)|(b,d))") || pair[0].equals("(b*,b)") ? "2:0" : "";
            judged("<!ELEMENT a " + pair[0] + ">" + rest, "<a>" + pair[1] + "</a>", found);
        }
        String[][] others = {
            {"(b)", ""}, {"(b)", "<b/><b/>"}, {"(b)", "x<b/>"}, {"(b)", "&#32;<b/>"}, {"(b)", "<c/>"}, {"(b+)", ""},
            {"(b,c)", "<b/>"}, {"(b,c)", "<c/><b/>"}, {"(b|c)", "<b/><c/>"}, {"((b,c)+)", "<b/><c/><b/>"},
            {"(b?,c)", "<b/>"}, {"(b,(c|d)?)", "<b/><c/><d/>"}, {"(b)*", "<!--c-->x"}, {"(b|c)", ""},
            {"(b?,c)", ""}, {"(b,c?)", ""},
        };
        for (String[] pair : others) {
            judged("<!ELEMENT a " + pair[0] + ">" + rest, "<a>" + pair[1] + "</a>", "8:1");
        }
        // What lies deeper does not matter.
        judged("<!ELEMENT a (b)><!ELEMENT b ANY>", "<a><b>x<b/></b></a>", "");
        // And neither does what stands behind.
        judged("<!ELEMENT a ANY><!ELEMENT b (c)><!ELEMENT c EMPTY>", "<a><b><c/></b><c/>x</a>", "");
    }

    private static void attributes() {
        String all = "<!ELEMENT a ANY><!ATTLIST a i ID #IMPLIED f CDATA #FIXED 'v' t (p|q) #IMPLIED>"
                + "<!ELEMENT b ANY><!ATTLIST b j ID #IMPLIED r CDATA #REQUIRED s CDATA #REQUIRED>";
        judged(all, "<a i='x' f='v' t='q'/>", "");
        judged(all, "<a/>", "");
        judged(all, "<a z=''/>", "9:2");
        judged(all, "<a t='r' f='w' i='1'/>", "10:2 10:3 10:4");
        judged(all, "<a i='" + Desk.repeat("n", 20) + "'/>", "");
        judged(all, "<a i='" + Desk.repeat("n", 21) + "'/>", "10:2");
        judged(all, "<a i=''/>", "10:2");
        judged(all, "<a i='x'><b j='x' r='' s=''/><a i='y'/><a i='x'/></a>", "11:5 11:12");
        judged(all, "<a f='v' i='v'><b r='w' s='z' j='w'/></a>", "");
        judged(all, "<a><b/></a>", "12:3 12:3");
        judged(all, "<a><b s='' z='' r=''/></a>", "9:5");
        judged(all, "<a><b z='' s=''/></a>", "9:4 12:3");
        // An ELEMENT that is not declared may have RULES all the same.
        judged("<!ATTLIST a x CDATA #REQUIRED y (p) #IMPLIED>", "<a y='q'/>", "7:1 10:2 12:1");
        // Those by default are taken as they are.
        judged("<!ELEMENT a ANY><!ATTLIST a x (p) 'q' i ID 'k'>", "<a><a i='k'/><a i='k'/></a>",
                "5:0 4:1 11:8");
    }

    private static void order() {
        judged("<!ATTLIST a x CDATA #REQUIRED><!ELEMENT b (c|c)><!ELEMENT b (#PCDATA|c|c)*>",
                "<b y=''><c/><a/></b>", "2:0 1:1 3:1 6:1 8:1 9:2 7:3 7:4 12:4");
    }
}
