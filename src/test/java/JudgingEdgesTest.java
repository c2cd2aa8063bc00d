/** JUDGING: each FINDING with what just gives it and what just does not. */
public final class JudgingEdgesTest {
    private static final String LONGEST = "abcdefghij-123456.9_";

    public static void main(String[] args) {
        declaredAgain();
        deterministic();
        twiceInMixed();
        idRules();
        valuesOfRules();
        rulesThatCountAsNone();
        outermost();
        notDeclared();
        empty();
        any();
        mixed();
        textInGroups();
        howOften();
        rowsOfNames();
        attributesWithoutRule();
        attributesOfType();
        fixed();
        idsTwice();
        required();
        byDefault();
        orderOfAll();
        mostOfAll();
        Desk.end();
    }

    private static void judged(String declarations, String element, String due) {
        Desk desk = new Desk();
        String text = "<!DOCTYPE a [" + declarations + "]>" + element;
        Desk.due("whether it is read: " + text, desk.read(text) > 0 ? 1 : 0, 1);
        Desk.due("FINDINGS of " + text, desk.allFindings(), due);
    }

    /** A SPEC of a: what is in a, and whether it fits. */
    private static void fits(String spec, String content, boolean due) {
        judged("<!ELEMENT a " + spec + "><!ELEMENT b EMPTY><!ELEMENT c EMPTY><!ELEMENT d EMPTY>",
                "<a>" + content + "</a>", due ? "" : "8:1");
    }

    private static void declaredAgain() {
        judged("<!ELEMENT a ANY><!ELEMENT A ANY><!ELEMENT aa ANY>", "<a/>", "");
        judged("<!ELEMENT a ANY><!ELEMENT a ANY>", "<a/>", "1:1");
        judged("<!ELEMENT a ANY><!ELEMENT b ANY><!ELEMENT a ANY><!ELEMENT a EMPTY><!ELEMENT b EMPTY>", "<a/>",
                "1:2 1:3 1:4");
        // The first one counts.
        judged("<!ELEMENT a EMPTY><!ELEMENT a ANY>", "<a>x</a>", "1:1 8:1");
        judged("<!ELEMENT a ANY><!ELEMENT a EMPTY>", "<a>x</a>", "1:1");
        judged("<!ELEMENT a (b)><!ELEMENT a (c)><!ELEMENT b EMPTY>", "<a><b/></a>", "1:1");
        // Its SPEC is judged all the same.
        judged("<!ELEMENT a ANY><!ELEMENT a (b|b)>", "<a/>", "1:1 2:1");
        judged("<!ELEMENT a ANY><!ELEMENT a (#PCDATA|b|b)*>", "<a/>", "1:1 3:1");
    }

    private static void deterministic() {
        String[] fine = {"(b,b)", "(b|B)", "(b?,c?)", "(b*)*", "(b+)+", "((b?)*)?", "((b,b)*)", "(b,(b|c))", "(b,c?,b)",
            "((b|c),(c|d)?)", "((b,c)+,d,b)", "((b?,c?)*)", "((b,c?)*,d)", "((b|c)*,d)", "((b,c)|(d,b))", "(b,(c,b)*)",
            "((((((b),b),b),b),b),b)"};
        for (String spec : fine) {
            judged("<!ELEMENT a ANY><!ELEMENT x " + spec + ">", "<a/>", "");
        }
        String[] poor = {"(b|b)", "(c|b|d|b)", "(b?,b)", "(b*,b)", "(b+,b)", "((b,c)|(b,d))", "((b?,c)|b)", "((b|c)*,b)",
            "((b,b)?,b)", "((b|c)?,(c|d))", "((b,c)*,b)", "(b?,c?,b?)", "((b,c?)+,c)", "(b,(c|d)*,(d|e))", "((b?|c)*,b)",
            "((c,b?)*,b)", "((b,c?,d?)*,d)", "(b,(c,(d,e?)+)+,e)"};
        for (String spec : poor) {
            judged("<!ELEMENT a ANY><!ELEMENT x " + spec + ">", "<a/>", "2:1");
        }
        // A sign behind the outermost GROUP counts as well.
        judged("<!ELEMENT a ANY><!ELEMENT x (b,c?)><!ELEMENT y (c?,b,c?)+>", "<a/>", "2:2");
        judged("<!ELEMENT a ANY><!ELEMENT x (c?,b,c?)?><!ELEMENT y (c?,b,c?)*>", "<a/>", "2:2");
    }

    private static void twiceInMixed() {
        judged("<!ELEMENT a (#PCDATA|b|B|c)*>", "<a/>", "");
        judged("<!ELEMENT a (#PCDATA|a)*>", "<a/>", "");
        judged("<!ELEMENT a (#PCDATA|b|b)*>", "<a/>", "3:0");
        judged("<!ELEMENT a (#PCDATA|b|c|d|b)*>", "<a/>", "3:0");
        judged("<!ELEMENT a (#PCDATA|b|b|b|c|c)*>", "<a/>", "3:0");
        judged("<!ELEMENT a (#PCDATA|b)*><!ELEMENT b (#PCDATA|b)*>", "<a/>", "");
    }

    private static void idRules() {
        String a = "<!ELEMENT a ANY>";
        judged(a + "<!ATTLIST a x ID #IMPLIED y CDATA #IMPLIED z (ID) #IMPLIED>", "<a/>", "");
        judged(a + "<!ATTLIST a x ID #IMPLIED><!ATTLIST b x ID #IMPLIED><!ATTLIST A y ID #IMPLIED>", "<a/>", "");
        judged(a + "<!ATTLIST a x ID #IMPLIED y ID #IMPLIED>", "<a/>", "4:1");
        judged(a + "<!ATTLIST b x ID #REQUIRED><!ATTLIST b w CDATA #IMPLIED y ID #REQUIRED z ID #IMPLIED>", "<a/>",
                "4:2 4:3");
        judged(a + "<!ATTLIST b w CDATA #IMPLIED x ID #IMPLIED y CDATA #IMPLIED z ID #IMPLIED>", "<a/>", "4:3");
        judged(a + "<!ATTLIST b " + Desk.numbered("r% CDATA #IMPLIED", " ", 8) + " y ID #IMPLIED z ID #IMPLIED>", "<a/>",
                "4:9");
        // Or one with a VALUE; both together are one FINDING.
        judged(a + "<!ATTLIST b x ID 'v'>", "<a/>", "4:0");
        judged(a + "<!ATTLIST b x ID #FIXED 'v'>", "<a/>", "4:0");
        judged(a + "<!ATTLIST b x ID 'v' y ID #FIXED 'v'>", "<a/>", "4:0 4:1");
        judged(a + "<!ATTLIST b x CDATA 'v' y (v) #FIXED 'v'>", "<a/>", "");
    }

    private static void valuesOfRules() {
        String b = "<!ELEMENT a ANY><!ATTLIST b x ";
        judged(b + "CDATA ''>", "<a/>", "");
        judged(b + "CDATA #FIXED ' &lt;1 '>", "<a/>", "");
        String[] names = {"b", "_", "Z-.9", LONGEST, "&#65;b"};
        for (String name : names) {
            judged(b + "ID '" + name + "'>", "<a/>", "4:0");
        }
        String[] others = {"", "1", "-a", "a b", " a", "a ", "a&amp;", LONGEST + "x"};
        for (String other : others) {
            judged(b + "ID '" + other + "'>", "<a/>", "4:0 5:0");
            judged(b + "ID #FIXED '" + other + "'>", "<a/>", "4:0 5:0");
        }
        // An empty one is not what stands behind it.
        judged(b + "ID '' y CDATA 'v'>", "<a/>", "4:0 5:0");
        judged(b + "(v) '' y CDATA 'v'>", "<a/>", "5:0");
        String[] tokens = {"one", "2", "-", "o&#110;e"};
        for (String token : tokens) {
            judged(b + "(one|2|-) '" + token + "'>", "<a/>", "");
        }
        String[] none = {"", "on", "ones", "One", " one", "one ", "one|2", "3"};
        for (String token : none) {
            judged(b + "(one|2|-) '" + token + "'>", "<a/>", "5:0");
            judged(b + "(one|2|-) #FIXED '" + token + "'>", "<a/>", "5:0");
        }
        // The TOKENS of another RULE are none of its own.
        judged(b + "(p) 'q' y (q) 'p' z (r) 'r'>", "<a/>", "5:0 5:1");
    }

    /** A RULE for an attribute that has one counts as none, nowhere, and gives no FINDING. */
    private static void rulesThatCountAsNone() {
        String a = "<!ELEMENT a ANY><!ATTLIST a x ";
        judged(a + "CDATA #IMPLIED x ID '1' x (p) 'q'>", "<a/>", "");
        judged(a + "ID #IMPLIED x ID #IMPLIED y CDATA #IMPLIED><!ATTLIST a x ID 'v' y ID #IMPLIED>", "<a/>", "");
        judged(a + "CDATA #IMPLIED x CDATA #REQUIRED>", "<a/>", "");
        judged(a + "CDATA #REQUIRED x CDATA #IMPLIED>", "<a/>", "12:1");
        judged(a + "(p) #IMPLIED x CDATA #IMPLIED>", "<a x='q'/>", "10:2");
        judged(a + "CDATA #IMPLIED x (p) #IMPLIED x ID #IMPLIED x CDATA #FIXED 'v'>", "<a x='1 '/>", "");
        // It has no number of its own.
        judged(a + "CDATA #IMPLIED x (p) 'q' y (p) 'q'>", "<a/>", "5:1");
        // No attribute comes by it.
        Desk desk = Desk.taken("<!DOCTYPE a [<!ATTLIST a x CDATA #IMPLIED x CDATA 'v' y CDATA 'w' y CDATA 'z'>]><a/>", 3);
        Desk.due("the first one's VALUE", desk.string(2), "w");
        Desk.due("RULES that stand", desk.count(2), 2);
        // For another NAME it is another one.
        judged(a + "CDATA #IMPLIED><!ATTLIST b x (p) 'q'>", "<a/>", "5:1");
    }

    private static void outermost() {
        String all = "<!ELEMENT a ANY><!ELEMENT A ANY><!ELEMENT aa ANY>";
        judged(all, "<a><A/><aa/></a>", "");
        judged(all, "<A><a/></A>", "6:1");
        judged(all, "<aa/>", "6:1");
    }

    private static void notDeclared() {
        judged("", "<a/>", "7:1");
        judged("<!ELEMENT b ANY>", "<a>x<b/><c/></a>", "7:1 7:4");
        // Its attributes are judged all the same.
        judged("<!ATTLIST a x (p) #IMPLIED y CDATA #REQUIRED>", "<a x='q' z=''/>", "7:1 10:2 9:3 12:1");
    }

    /** EMPTY: no NODES in it, attributes aside. */
    private static void empty() {
        fits("EMPTY", "", true);
        fits("EMPTY", "<!--x--><!---->", true);
        fits("EMPTY", " ", false);
        fits("EMPTY", "&#32;", false);
        fits("EMPTY", "x", false);
        fits("EMPTY", "<b/>", false);
        judged("<!ELEMENT a EMPTY><!ATTLIST a x CDATA #IMPLIED y CDATA 'v'>", "<a x='w'/>", "");
    }

    /** ANY: ELEMENTS that are declared. */
    private static void any() {
        fits("ANY", "", true);
        fits("ANY", "x<b/> <c/>&#32;<b/>", true);
        judged("<!ELEMENT a ANY>", "<a><a/><b/></a>", "8:1 7:3");
        judged("<!ELEMENT a ANY><!ELEMENT b ANY>", "<a><b><c/></b></a>", "8:2 7:3");
        judged("<!ELEMENT a ANY><!ATTLIST b x CDATA #IMPLIED>", "<a><b x=''/></a>", "8:1 7:2");
    }

    /** '#PCDATA': TEXTS, and ELEMENTS of these NAMES. */
    private static void mixed() {
        fits("(#PCDATA)", "", true);
        fits("(#PCDATA)", "x&lt; ", true);
        fits("(#PCDATA)*", "x<!---->y", true);
        fits("(#PCDATA)", "<b/>", false);
        fits("(#PCDATA)*", "x<b/>", false);
        fits("(#PCDATA|b|c)*", "", true);
        fits("(#PCDATA|b|c)*", "<c/>x<c/><b/>", true);
        fits("(#PCDATA|b|c)*", "<c/>x<d/>", false);
        fits("(#PCDATA|b)*", "<a/>", false);
        // They need not be declared, but then they are not.
        judged("<!ELEMENT a (#PCDATA|x)*>", "<a>y<x/></a>", "7:3");
    }

    /** A GROUP: no TEXT but of S alone that did not come by a REF. */
    private static void textInGroups() {
        fits("(b,c)", "\t<b/>\n\r <c/> ", true);
        fits("(b?)", " \t", true);
        String[] others = {"x", "&#9;", "&#10;", "&#13;", "&#32;", " &#32; ", "&lt;", " . "};
        for (String other : others) {
            fits("(b,c)", other + "<b/><c/>", false);
            fits("(b,c)", "<b/>" + other + "<c/>", false);
            fits("(b,c)", "<b/><c/>" + other, false);
            fits("(b?)", other, false);
        }
        // S behind a COMMENT is a TEXT of its own.
        fits("(b)", " <!--x--> <b/>", true);
        fits("(b)", " <!--x-->x<b/>", false);
        // What is in the ELEMENTS within is theirs.
        judged("<!ELEMENT a (b)><!ELEMENT b ANY>", "<a><b>x&#32;<b/></b></a>", "");
        judged("<!ELEMENT a (b)><!ELEMENT b (a?)>", "<a><b>x</b></a>", "8:2");
    }

    /** ? none or once, * as often as one likes, + once at least; without a sign once. */
    private static void howOften() {
        String[] ofOne = {"(b%)", "(b)%", "((b)%)", "((((((b))))))%"};
        for (String spec : ofOne) {
            howOften(spec, "<b/>");
        }
        String[] ofTwo = {"(b,c)%", "((b,c)%)", "((((((b),c)))))%"};
        for (String spec : ofTwo) {
            howOften(spec, "<b/><c/>");
        }
        fits("(b)*", Desk.repeat("<b/>", 590), true);
        fits("(b?,c?)", "", true);
        fits("(b?,c)", "", false);
        fits("(b,c?)", "", false);
        fits("(b?|c)", "", true);
        fits("(b|c?)", "", true);
        fits("(b|c)", "", false);
        fits("(b|c*)+", "", true);
        fits("(b,c*)+", "", false);
    }

    private static void howOften(String spec, String part) {
        String[] signs = {"", "?", "*", "+"};
        boolean[][] due = {{false, true, false, false}, {true, true, false, false}, {true, true, true, true},
            {false, true, true, true}};
        for (int sign = 0; sign < 4; sign++) {
            for (int times = 0; times < 4; times++) {
                fits(spec.replace("%", signs[sign]), Desk.repeat(part, times), due[sign][times]);
            }
        }
    }

    private static void rowsOfNames() {
        fits("(b,c)", "<b/><c/>", true);
        fits("(b,c)", "<c/><b/>", false);
        fits("(b,c)", "<b/>", false);
        fits("(b,c)", "<c/>", false);
        fits("(b,c)", "<b/><c/><c/>", false);
        fits("(b,c)", "<b/><c/><b/>", false);
        fits("(b|c)", "<b/>", true);
        fits("(b|c)", "<c/>", true);
        fits("(b|c)", "<d/>", false);
        fits("(b|c)", "<b/><c/>", false);
        fits("((b|c),d)", "<c/><d/>", true);
        fits("((b|c),d)", "<d/>", false);
        fits("(b,(c,d)?)", "<b/>", true);
        fits("(b,(c,d)?)", "<b/><c/>", false);
        fits("(b,(c,d)?)", "<b/><c/><d/>", true);
        fits("(b,(c?,d?)*,b)", "<b/><d/><c/><c/><d/><b/>", true);
        fits("(b,(c?,d?)*,b)", "<b/><b/><b/>", false);
        fits("((b,c)+)", "<b/><c/><b/>", false);
        // What one GROUP ends with does not lead into the other one.
        fits("((b,c)|(d?,c))", "<b/><c/><c/>", false);
        fits("((b,c)|(d?,c))", "<d/><c/>", true);
        fits("((b,c)|(d*,c))", "<c/>", true);
        fits("(b,c,(d?,b))", "<b/><b/>", false);
        fits("(b,c,(d?,b))", "<b/><c/><b/>", true);
        // The SIGN of one is not that of the other one.
        fits("((b|c),(c,d))", "<b/><c/><d/>", true);
        fits("((b,c),(c|d))", "<b/><c/><d/>", true);
        fits("((b,c),(c|d))", "<b/><d/>", false);
        // One that is not DETERMINISTIC tells its rows, too.
        judged("<!ELEMENT a ((b,c)|(b,d))><!ELEMENT b EMPTY><!ELEMENT d EMPTY>", "<a><b/><d/></a>", "2:0");
        judged("<!ELEMENT a (b*,b,b)><!ELEMENT b EMPTY>", "<a><b/><b/></a>", "2:0");
        judged("<!ELEMENT a (b*,b,b)><!ELEMENT b EMPTY>", "<a><b/></a>", "2:0 8:1");
        judged("<!ELEMENT a ((b,b)|b)*><!ELEMENT b EMPTY>", "<a><b/><b/><b/></a>", "2:0");
    }

    private static void attributesWithoutRule() {
        String all = "<!ELEMENT a ANY><!ATTLIST a x CDATA #IMPLIED><!ATTLIST b y CDATA #IMPLIED>";
        judged(all, "<a x=''/>", "");
        judged(all, "<a y=''/>", "9:2");
        judged(all, "<a X='' xx='' x=''/>", "9:2 9:3");
    }

    private static void attributesOfType() {
        String all = "<!ELEMENT a ANY><!ATTLIST a i ID #IMPLIED t (one|2) #IMPLIED c CDATA #IMPLIED>";
        String[] names = {"b", "_", "Z-.9", LONGEST, "&#65;"};
        for (String name : names) {
            judged(all, "<a i='" + name + "'/>", "");
        }
        String[] others = {"", "1", ".a", "a b", " a", "a\n", LONGEST + "x", "a&gt;"};
        for (String other : others) {
            judged(all, "<a i='" + other + "'/>", "10:2");
        }
        judged(all, "<a i='' c='x'/>", "10:2");
        judged(all, "<a t='one'/>", "");
        judged(all, "<a t='2'/>", "");
        String[] none = {"", "on", "ones", "ONE", " 2", "one|2"};
        for (String other : none) {
            judged(all, "<a t='" + other + "'/>", "10:2");
        }
        judged(all, "<a c=''/>", "");
        judged(all, "<a c=' &lt;\n'/>", "");
    }

    private static void fixed() {
        String all = "<!ELEMENT a ANY><!ATTLIST a f CDATA #FIXED 'v w' g (p|q) #FIXED 'p' h CDATA 'v' e CDATA #FIXED ''>";
        judged(all, "<a f='v w' g='p' e='' h='x'/>", "");
        judged(all, "<a f='v\nw'/>", "");
        judged(all, "<a f='v&#32;w'/>", "");
        judged(all, "<a f='v&#10;w'/>", "10:2");
        judged(all, "<a f='v'/>", "10:2");
        judged(all, "<a f='v w '/>", "10:2");
        judged(all, "<a f=''/>", "10:2");
        judged(all, "<a g='q'/>", "10:2");
        judged(all, "<a g='r'/>", "10:2");
        judged(all, "<a e='x'/>", "10:2");
        // An empty one behind as many bytes as may be.
        String most = "<!ELEMENT a ANY><!ATTLIST a f CDATA '" + Desk.repeat("v", 2000) + "' e CDATA #FIXED ''>";
        judged(most, "<a e=''/>", "");
        judged(most, "<a f='' e=''/>", "");
    }

    private static void idsTwice() {
        String all = "<!ELEMENT a ANY><!ATTLIST a i ID #IMPLIED c CDATA #IMPLIED><!ELEMENT b ANY><!ATTLIST b j ID #IMPLIED>";
        judged(all, "<a i='x'><a i='y'/><b j='xx'/><b j='X'/></a>", "");
        judged(all, "<a i='x'><a i='x'/></a>", "11:4");
        judged(all, "<a i='x'><b j='x'/><a i='x'/></a>", "11:4 11:6");
        judged(all, "<a><b j='x'/><b/><b j='y'/><a i='y'/></a>", "11:8");
        // An ID, not what else has the same VALUE or STRING.
        judged(all, "<a i='x'>x</a>", "");
        judged(all, "<a i='x'><b>x</b></a>", "");
        judged(all, "<a c='x' i='x'><a c='x'/></a>", "");
        // What is not of its TYPE gives 10 alone, however often.
        judged(all, "<a i='1'><a i='1'/></a>", "10:2 10:4");
        judged(all, "<a i=''><a i=''/></a>", "10:2 10:4");
        // Two ID RULES of one NAME are two IDS.
        String two = "<!ELEMENT a ANY><!ATTLIST a i ID #IMPLIED j ID #IMPLIED>";
        judged(two, "<a j='x' i='x'/>", "4:1 11:3");
        judged(two, "<a j='x' i='y'/>", "4:1");
        // One that is not that of '#FIXED' stands, too.
        String fixed = "<!ELEMENT a ANY><!ATTLIST a i ID #FIXED 'x'><!ATTLIST b j ID #IMPLIED><!ELEMENT b ANY>";
        judged(fixed, "<a i='y'><b j='y'/></a>", "4:0 10:2 11:4");
        // Those by default do not stand.
        judged(fixed, "<a><b j='x'/></a>", "4:0");
        judged(fixed, "<a><a/><a i='x'/></a>", "4:0");
        judged(fixed, "<a><a i='x'/><a i='x'/></a>", "4:0 11:6");
    }

    private static void required() {
        String all = "<!ELEMENT a ANY><!ATTLIST a x CDATA #REQUIRED y ID #IMPLIED><!ATTLIST a z (p) #REQUIRED>";
        judged(all, "<a x='' z='p'/>", "");
        judged(all, "<a/>", "12:1 12:1");
        judged(all, "<a z='q'/>", "10:2 12:1");
        judged(all, "<a x='' w=''/>", "9:3 12:1");
        judged(all, "<a x='' z='p'><a z='p'/><b/></a>", "8:1 12:4 7:6");
        judged("<!ELEMENT a ANY><!ATTLIST b x CDATA #REQUIRED>", "<a/>", "");
        judged("<!ELEMENT a ANY><!ATTLIST a " + Desk.numbered("r% CDATA #REQUIRED", " ", 10) + ">", "<a r9=''/>",
                "12:1 12:1 12:1 12:1 12:1 12:1 12:1 12:1 12:1");
    }

    /** Those by default are taken as they are. */
    private static void byDefault() {
        judged("<!ELEMENT a ANY><!ATTLIST a x (p) 'q' y (p) #FIXED 'q' i ID '1'>", "<a><a/></a>", "5:0 5:1 4:2 5:2");
        judged("<!ELEMENT a ANY><!ATTLIST a x (p) 'q'>", "<a x='q'/>", "5:0 10:2");
    }

    private static void orderOfAll() {
        judged("<!ATTLIST b x ID '1'><!ELEMENT b (c?,c)><!ELEMENT b (#PCDATA|c|c)*><!ATTLIST b y ID #IMPLIED>",
                "<b z='' y='v' x='v'><b x='v'/><d/></b>",
                "4:0 5:0 2:0 1:1 3:1 4:1 6:1 8:1 9:2 11:4 8:5 11:6 7:7");
        // 8 ahead of 9, 9 ahead of 12, and the ELEMENT within behind all of them.
        judged("<!ELEMENT a EMPTY><!ATTLIST a x CDATA #REQUIRED>", "<a y=''><a x='' z=''/></a>", "8:1 9:2 12:1 9:5");
    }

    /** As many FINDINGS as an object's 512 calls can bring about. */
    private static void mostOfAll() {
        String head = "<!DOCTYPE b [<!ATTLIST a " + Desk.numbered("r% CDATA #REQUIRED", " ", 10) + ">]>";
        Desk desk = Desk.taken(head + "<a>" + Desk.repeat("<a/>", 598) + "</a>", 600);
        Desk.due("FINDINGS", desk.findings(), 1 + 599 * 11);
        Desk.due("the last one", desk.finding(6589, 0), 12);
        Desk.due("its ELEMENT", desk.finding(6589, 1), 599);
        Desk.due("behind it", desk.finding(6590, 0), -9);
    }
}
