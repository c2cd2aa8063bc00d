/** PATHS: each form and each BOUND, and where each STEP and each [ ] just leads or does not. */
public final class PathEdgesTest {
    // 0 ROOT, 1 a, 2 @x, 3 'r', 4 b, 5 @x, 6 @y, 7 's', 8 c, 9 't', 10 b, 11 c, 12 b, 13 'u', 14 'v'
    private static final String TEXT = "<a x='1'>r<b x='1' y=''>s<c>t</c></b><b><c><b>u</b></c></b>v</a>";

    public static void main(String[] args) {
        ahead();
        itself();
        upward();
        elements();
        attributes();
        texts();
        deep();
        places();
        having();
        havingString();
        ownString();
        severalBrackets();
        eachOnce();
        forms();
        steps();
        brackets();
        names();
        Desk.end();
    }

    private static void told(int k, String path, String due) {
        Desk desk = Desk.taken(TEXT, 15);
        Desk.due("PATH " + path + " asked at " + k, desk.path(k, path), due);
    }

    /** It is asked at a NODE; with '/' or '//' ahead at the ROOT; '/' alone is a PATH, too. */
    private static void ahead() {
        for (int k = 0; k < 15; k++) {
            told(k, "/", "0");
            told(k, "/a", "1");
            told(k, "/.", "0");
            told(k, "//c", "8 11");
        }
        told(4, "a", "");
        told(0, "a", "1");
        told(1, "a", "");
        told(1, "/b", "");
    }

    private static void itself() {
        for (int k = 0; k < 15; k++) {
            told(k, ".", "" + k);
        }
    }

    /** '..' to the one in which it is (an attribute in its ELEMENT); the ROOT is in none. */
    private static void upward() {
        String[] due = {"", "0", "1", "1", "1", "4", "4", "4", "4", "8", "1", "10", "11", "12", "1"};
        for (int k = 0; k < 15; k++) {
            told(k, "..", due[k]);
        }
        told(1, "../..", "");
        told(0, "/..", "");
        told(0, "//..", "0 1 4 10 11");
    }

    private static void elements() {
        told(1, "b", "4 10");
        told(1, "*", "4 10");
        told(0, "*", "1");
        told(10, "*", "11");
        told(12, "*", "");
        told(12, "b", "");
        told(2, "*", "");
        told(3, "*", "");
        told(1, "B", "");
        told(1, "bb", "");
        told(1, "x", "");
        told(1, "neverseen", "");
        told(1, "*/*", "8 11");
    }

    private static void attributes() {
        told(1, "@x", "2");
        told(1, "@*", "2");
        told(4, "@*", "5 6");
        told(4, "@y", "6");
        told(4, "@z", "");
        told(4, "@b", "");
        told(10, "@*", "");
        told(0, "@*", "");
        told(2, "@*", "");
        told(7, "@*", "");
        told(1, "*/@x", "5");
        // Those by default are attributes, too.
        Desk desk = Desk.taken("<!DOCTYPE a [<!ATTLIST a y CDATA 'v'>]><a x=''/>", 4);
        Desk.due("by default", desk.path(1, "@*"), "2 3");
        Desk.due("by default", desk.path(0, "*[@y='v']"), "1");
    }

    private static void texts() {
        told(1, "text()", "3 14");
        told(4, "text()", "7");
        told(10, "text()", "");
        told(0, "text()", "");
        told(2, "text()", "");
        told(3, "text()", "");
        told(1, "*/text()", "7");
    }

    /** '//' leads first from each to itself and all ELEMENTS within. */
    private static void deep() {
        told(0, "//.", "0 1 4 8 10 11 12");
        told(4, ".//.", "4 8");
        told(10, ".//.", "10 11 12");
        told(10, ".//b", "12");
        told(1, "b//b", "12");
        told(1, "b//text()", "7 9 13");
        told(1, ".//@x", "2 5");
        told(0, "//@*", "2 5 6");
        told(2, ".//.", "2");
        told(3, ".//.", "3");
        told(2, ".//..", "1");
        told(1, "*//..", "1 4 10 11");
        told(0, "//*//*", "4 8 10 11 12");
        told(12, ".//*", "");
        told(8, "..//c", "8");
    }

    /** A NUMBER and 'last()': of those to which a STEP leads from one NODE, the one of that place, the last one. */
    private static void places() {
        told(1, "b[1]", "4");
        told(1, "b[2]", "10");
        told(1, "b[0]", "");
        told(1, "b[3]", "");
        told(1, "b[0002]", "10");
        told(1, "b[9999]", "");
        told(1, "b[last()]", "10");
        told(1, "c[last()]", "");
        told(1, "text()[2]", "14");
        told(4, "@*[2]", "6");
        told(4, "@*[last()]", "6");
        told(1, "*[1]", "4");
        // From each NODE its own.
        told(0, "//b[1]", "4 12");
        told(0, "//b[2]", "10");
        told(0, "//b[last()]", "10 12");
        told(0, "//text()[1]", "3 7 9 13");
        told(1, "b/c[1]", "8 11");
        told(1, "b/c[2]", "");
        Desk desk = Desk.taken("<a>" + Desk.repeat("<b/>", 598) + "</a>", 600);
        Desk.due("[598]", desk.path(1, "b[598]"), "599");
        Desk.due("[0598]", desk.path(1, "b[0598]"), "599");
        Desk.due("[599]", desk.path(1, "b[599]"), "");
        Desk.due("[last()]", desk.path(1, "b[last()]"), "599");
    }

    /** Those that have such an ELEMENT right in them, or attribute. */
    private static void having() {
        told(1, "b[c]", "4 10");
        told(1, "b[b]", "");
        told(0, "//*[b]", "1 11");
        told(0, "//*[@x]", "1 4");
        told(0, "//*[@y]", "4");
        told(0, "//*[x]", "");
        told(0, "//*[@b]", "");
        told(0, "//*[neverseen]", "");
        told(0, "//*[@neverseen]", "");
        told(1, "@x[@x]", "");
        told(1, "text()[b]", "");
        told(0, "//@x[b]", "");
    }

    /** Such a one whose STRING is QUOTED. */
    private static void havingString() {
        told(1, "b[c='t']", "4");
        told(1, "b[c='u']", "10");
        told(0, "a[b='st']", "1");
        told(0, "a[b='u']", "1");
        told(0, "a[b='s']", "");
        told(0, "a[b='']", "");
        told(1, "b[c=\"t\"]", "4");
        told(1, "b[c='T']", "");
        told(1, "b[c='tt']", "");
        told(1, "b[@x='1']", "4");
        told(1, "b[@x='']", "");
        told(1, "b[@x='11']", "");
        told(1, "b[@y='']", "4");
        told(1, "b[@y='1']", "");
        told(1, "b[neverseen='']", "");
        told(1, "b[@neverseen='']", "");
        Desk desk = Desk.taken("<a><b x='&quot;'>'</b><b x=\"&#39; \"> &lt;&#10;</b><b><c/><c>y</c></b></a>", 12);
        Desk.due("the other quote", desk.path(1, "b[@x='\"']"), "2");
        Desk.due("the other quote", desk.path(1, "b[@x=\"' \"]"), "5");
        Desk.due("S and '<' in quotes", desk.path(1, "b[.=' <\n']"), "5");
        Desk.due("no REFS in quotes", desk.path(1, "b[.=' &lt;\n']"), "");
        Desk.due("any such one", desk.path(1, "b[c='y']"), "8");
        Desk.due("any such one", desk.path(1, "b[c='']"), "8");
    }

    /** Those whose own STRING is. */
    private static void ownString() {
        told(1, "b[.='st']", "4");
        told(1, "b[.='u']", "10");
        told(1, "b[.='']", "");
        told(1, "@x[.='1']", "2");
        told(4, "@*[.='']", "6");
        told(1, "text()[.='v']", "14");
        told(0, "a[.='rstuv']", "1");
        told(0, "a[.='rstuvw']", "");
        told(0, "a[.='rstu']", "");
        told(0, "//*[.='u']", "10 11 12");
    }

    /** Each leaves of what the one before left. */
    private static void severalBrackets() {
        told(1, "b[2][1]", "10");
        told(1, "b[2][2]", "");
        told(1, "b[c='u'][1]", "10");
        told(1, "b[1][c='u']", "");
        told(1, "b[@x][last()]", "4");
        told(1, "b[c][c='u'][last()][1]", "10");
    }

    /** All together, each once, by numbers. */
    private static void eachOnce() {
        told(1, "b/..", "1");
        told(1, "text()/..", "1");
        told(0, "//.//.", "0 1 4 8 10 11 12");
        told(0, "//*/@x/../..", "0 1");
        told(13, "../../../..", "1");
    }

    private static void ill(String... paths) {
        Desk desk = Desk.taken(TEXT, 15);
        for (String path : paths) {
            desk.illPath(1, path);
        }
    }

    private static void forms() {
        // STEPS with '/' or '//' between, the whole text, no S but in quotes.
        ill("^", "^ ", "^ a", "a^ ", "a^ /b", "a/^ b", "//^", "/^ ", "//^/b", "a/^", "a//^", "a//^/b", "a^)", "^[1]",
                "a/^[1]", "^1", "^-a", "^(a)", "a^|b", "a^=1", "a^,", "^'a'", "b^]", "b[1]^]", "b[1]^b");
        // Behind '..' and '.' nothing stands.
        ill("..^.", "..^a", "..^*", "..^[1]", ".^a", ".^*", ".^[1]", ".^@x", "a/..^..", "./.^x", "..^text()");
        // '@' or nothing, and NAME or '*'; 'text()' as a whole.
        ill("@^", "@^@x", "@^.", "@^..", "@^/x", "@^1", "@^ x", "@text^()", "text^(", "text^( )", "text()^x", "text()^()",
                "texts^()", "*^a", "*^*", "a^*", "a^@x");
        // One of the five between '[' and ']'.
        ill("b[^", "b[^]", "b[^ 1]", "b[1^ ]", "b[1^", "b[12^", "b[1234^5]", "b[1^a]", "b[^-1]", "b[last^(]", "b[last^( )]",
                "b[last()^", "b[last()^x]", "b[last()^=1]", "b[^*]", "b[^..]", "b[^.]", "b[^. ='x']", "b[^/a]", "b[@^]",
                "b[@^*]", "b[@^1]", "b[c^/c]", "b[text^()]");
        // QUOTED: a quote, CHARS but that one, the quote.
        ill("b[c=^]", "b[c=^", "b[c=^x]", "b[c=^1]", "b[c^ ='x']", "b[c=^ 'x']", "b[c='x^", "b[c='x]^", "b[c='x\"]^",
                "b[c='^\u0001']", "b[c='x'^", "b[c='x'^ ]", "b[c='x'^'y']", "b[.=^x]", "b[.=^", "b[.='^", "b[.=''^x]",
                "b[@x=^]", "b[@x='1'^");
        told(1, "b.", "");
        told(1, "text", "");
        told(1, "last", "");
        told(1, "b[last]", "");
        told(1, "b[text]", "");
    }

    /** BOUND: the 13th STEP, at its first byte. */
    private static void steps() {
        Desk desk = Desk.taken(TEXT, 15);
        String twelve = Desk.repeat("./", 12);
        Desk.due("12 STEPS", desk.path(1, Desk.repeat("./", 11) + "b"), "4 10");
        Desk.due("12 STEPS with '/' ahead", desk.path(4, "/" + Desk.repeat("./", 11) + "a"), "1");
        Desk.due("12 STEPS with '//' each", desk.path(4, "//" + Desk.repeat(".//", 11) + "c"), "8 11");
        String[] thirteenth = {".", "..", "a", "*", "@x", "text()", "a[1]", "@", "a[", "_", ".x"};
        for (String step : thirteenth) {
            desk.boundPath(1, twelve + "^" + step);
        }
        desk.boundPath(1, "/" + twelve + "^a/");
        desk.boundPath(1, "//" + Desk.repeat("*//", 12) + "^a");
        desk.boundPath(1, Desk.repeat("../", 12) + "^../..");
        // What begins no STEP is none.
        String[] none = {"", "[", "1", " ", "]", "{", "`", "~", "-"};
        for (String other : none) {
            desk.illPath(1, twelve + "^" + other);
        }
        desk.illPath(1, Desk.repeat("./", 11) + ".^]");
        desk.illPath(1, Desk.repeat("./", 11) + ".//^");
    }

    /** BOUND: the 5th [ of one STEP, at its first byte. */
    private static void brackets() {
        Desk desk = Desk.taken(TEXT, 15);
        Desk.due("4 of them", desk.path(1, "b[1][1][1][1]"), "4");
        Desk.due("4 of each STEP", desk.path(1, "b[1][1][1][1]/c[1][1][1][1]/text()[1][1][1][1]"), "9");
        desk.boundPath(1, "b[1][1][1][1]^[1]");
        desk.boundPath(1, "b[1][1][1][1]^[");
        desk.boundPath(1, "b[1][1][1][1]^[ ");
        desk.boundPath(1, "a/@x[1][1][1][1]^[1]");
        desk.boundPath(1, "a//text()[last()][last()][.=''][.='']^[.='']");
        desk.boundPath(1, "*[1][1][1][1]^[1][1]/" + Desk.repeat("./", 12));
        desk.illPath(1, "b[1][1][1][1]^]");
        desk.illPath(1, "b[1][1][1][^");
    }

    /** A NAME has 20 bytes at most. */
    private static void names() {
        String name = "abcdefghij-123456.9_";
        Desk desk = Desk.taken("<a><" + name + " " + name + "='1'/></a>", 4);
        Desk.due("20 bytes", desk.path(1, name), "2");
        Desk.due("20 bytes", desk.path(2, "@" + name), "3");
        Desk.due("20 bytes", desk.path(1, "*[@" + name + "='1']"), "2");
        Desk.due("20 bytes", desk.path(0, "*[" + name + "]"), "1");
        desk.boundPath(1, "^" + name + "x");
        desk.boundPath(1, "./@^" + name + "x");
        desk.boundPath(1, "*[^" + name + "x]");
        desk.boundPath(1, "*[@^" + name + "x='1']");
        desk.boundPath(1, "^" + name + "x!");
    }
}
