/** Promises 10 and 11: select and told. */
public final class SelectTest {
    // 0 ROOT, 1 doc, 2 @id, 3 sec, 4 @n, 5 p, 6 'x', 7 p, 8 @id, 9 'y', 10 b, 11 'z', 12 sec, 13 @n, 14 @lang,
    // 15 ' ', 16 p, 17 'x', 18 note, 19 p, 20 'q'
    private static final String TEXT = "<!DOCTYPE doc [<!ATTLIST sec lang CDATA #IMPLIED>]>"
            + "<doc id='d'><sec n='1'><p>x</p><p id='k'>y<b>z</b></p></sec>"
            + "<sec n='2' lang='en'> <p>x</p><note><p>q</p></note></sec></doc>";

    public static void main(String[] args) {
        calls();
        steps();
        brackets();
        ill();
        bounds();
        Desk.end();
    }

    private static void calls() {
        Desk desk = new Desk();
        desk.feed("doc");
        Desk.due("without a DOCUMENT", desk.select(0, 3), -9);
        Desk.due("nothing happened", desk.count(5), 20);
        desk = Desk.taken(TEXT, 21);
        desk.feed("//p");
        Desk.due("no such NODE", desk.select(21, 3), -9);
        Desk.due("no such NODE", desk.select(-1, 3), -9);
        Desk.due("n below 0", desk.select(0, -1), -9);
        Desk.due("n above THE TAPE", desk.select(0, 21), -9);
        Desk.due("nothing happened", desk.count(5), 20);
        Desk.due("the first bytes alone", desk.select(0, 3), 4);
        Desk.due("THE TAPE is empty", desk.count(5), 0);
        Desk.due("told 0", desk.told(0), 5);
        Desk.due("told 3", desk.told(3), 19);
        Desk.due("told 4", desk.told(4), -1);
        Desk.due("told -1", desk.told(-1), -1);
        Desk.due("an ILL one", desk.select(0, "//p["), -1);
        Desk.due("THE TAPE is empty", desk.count(5), 0);
        Desk.due("what the one before told stays", desk.told(3), 19);
        Desk.due("a BOUND", desk.select(0, Desk.repeat("./", 12) + "."), -3);
        Desk.due("what the one before told stays", desk.told(3), 19);
        Desk.due("one that tells nothing", desk.select(0, "p"), 0);
        Desk.due("nothing is told", desk.told(0), -1);
        desk.select(0, "//p");
        desk.read("<a></b>");
        Desk.due("a text that is refused", desk.told(0), 5);
        desk.read("<a/>");
        Desk.due("a new DOCUMENT", desk.told(0), -1);
    }

    private static void steps() {
        Desk desk = Desk.taken(TEXT, 21);
        Desk.due("/", desk.path(9, "/"), "0");
        Desk.due("doc", desk.path(0, "doc"), "1");
        Desk.due("/doc", desk.path(9, "/doc"), "1");
        Desk.due("doc of doc", desk.path(1, "doc"), "");
        Desk.due("/doc/sec/p", desk.path(0, "/doc/sec/p"), "5 7 16");
        Desk.due("*", desk.path(12, "*"), "16 18");
        Desk.due(".", desk.path(12, "."), "12");
        Desk.due("..", desk.path(12, ".."), "1");
        Desk.due(".. of an attribute", desk.path(13, ".."), "12");
        Desk.due(".. of the ROOT", desk.path(0, ".."), "");
        Desk.due("@*", desk.path(12, "@*"), "13 14");
        Desk.due("@lang", desk.path(1, "*/@lang"), "14");
        Desk.due("text()", desk.path(7, "text()"), "9");
        Desk.due("text() of a TEXT", desk.path(9, "text()"), "");
        Desk.due("* of an attribute", desk.path(13, "*"), "");
        Desk.due("//text()", desk.path(20, "//text()"), "6 9 11 15 17 20");
        Desk.due("//@id", desk.path(0, "//@id"), "2 8");
        Desk.due("//*", desk.path(0, "//*"), "1 3 5 7 10 12 16 18 19");
        Desk.due("//.", desk.path(0, "//."), "0 1 3 5 7 10 12 16 18 19");
        Desk.due(".//p", desk.path(12, ".//p"), "16 19");
        Desk.due(".//* goes no further", desk.path(3, ".//*"), "5 7 10");
        Desk.due(".//. of an attribute", desk.path(13, ".//."), "13");
        Desk.due("each once", desk.path(0, "//p/.."), "3 12 18");
        Desk.due("each once", desk.path(0, "//..//p"), "5 7 16 19");
        Desk.due("an unknown NAME", desk.path(0, "//nothing"), "");
        Desk.due("an unknown attribute", desk.path(0, "//@nothing"), "");
        Desk.due("the NAME text", desk.path(0, "//text"), "");
        desk.read("<a><text/>b<last/></a>");
        Desk.due("the NAME text", desk.path(1, "text"), "2");
        Desk.due("the NAME last", desk.path(0, "a[last]"), "1");
    }

    private static void brackets() {
        Desk desk = Desk.taken(TEXT, 21);
        Desk.due("[1]", desk.path(0, "//p[1]"), "5 16 19");
        Desk.due("[2]", desk.path(0, "//p[2]"), "7");
        Desk.due("[0]", desk.path(0, "//p[0]"), "");
        Desk.due("[0001]", desk.path(0, "//p[0001]"), "5 16 19");
        Desk.due("[9999]", desk.path(0, "//p[9999]"), "");
        Desk.due("[last()]", desk.path(0, "//p[last()]"), "7 16 19");
        Desk.due("[p]", desk.path(0, "//*[p]"), "3 12 18");
        Desk.due("[@id]", desk.path(0, "//*[@id]"), "1 7");
        Desk.due("[@n='2']", desk.path(0, "//sec[@n='2']"), "12");
        Desk.due("[@n=\"\"]", desk.path(0, "//sec[@n=\"\"]"), "");
        Desk.due("[p='yz']", desk.path(0, "//*[p='yz']"), "3");
        Desk.due("[.='x']", desk.path(0, "//p[.='x']"), "5 16");
        Desk.due("text()[.='x']", desk.path(0, "//text()[.='x']"), "6 17");
        Desk.due("@*[.='2']", desk.path(0, "//@*[.='2']"), "13");
        Desk.due("@*[2]", desk.path(0, "//@*[2]"), "14");
        Desk.due("[@id][1]", desk.path(0, "//p[@id][1]"), "7");
        Desk.due("[1][@id]", desk.path(0, "//p[1][@id]"), "");
        Desk.due("four of them", desk.path(0, "//p[last()][1][@id='k'][b]"), "7");
        Desk.due("of no NAME", desk.path(0, "//p[nothing]"), "");
        Desk.due("the other quote", desk.path(0, "//p[.=\"'\"]"), "");
        Desk.due("a blank", desk.path(0, "//text()[.=' ']"), "15");
        Desk.due("several places", manyPlaces(), "12 11 13 2");
        Desk.due("no REFS", desk.path(0, "//text()[.='&#32;']"), "");
    }

    private static String manyPlaces() {
        Desk desk = Desk.taken("<a>" + Desk.repeat("<b/>", 12) + "</a>", 14);
        return desk.path(1, "b[11]") + " " + desk.path(1, "b[0010]") + " " + desk.path(1, "b[12]") + " "
                + desk.path(1, "*[1][last()]") + desk.path(1, "b[13]");
    }

    private static void ill() {
        Desk desk = Desk.taken(TEXT, 21);
        String[] texts = {"", "//", "a/", "a//", "///a", " a", "a b", "a/ b", "...", "..a", ".a", "..[1]", ".[1]",
            "@", "@@a", "@.", "1", "text(", "@text()", "a[", "a[]", "a[1", "a[12345]", "a[ 1]", "a[last(]",
            "a[@]", "a[@*]", "a[*]", "a[.]", "a[.=x]", "a[b=]", "a[b='x]", "a[b='x\"]", "a[b=\"\u0001\"]", "a]",
            "a[1]b", "a|b", "a/\u0080", "a[text()]"};
        int[] places = {0, 2, 2, 3, 2, 0, 1, 2, 2, 2, 1, 2, 1,
            1, 1, 1, 0, 4, 5, 2, 2, 3, 6, 2, 6,
            3, 3, 2, 2, 4, 4, 7, 8, 5, 1,
            4, 1, 2, 6};
        for (int i = 0; i < texts.length; i++) {
            Desk.due("PATH " + texts[i], desk.path(1, texts[i]), "-1@" + places[i]);
        }
    }

    private static void bounds() {
        Desk desk = Desk.taken(TEXT, 21);
        Desk.due("12 STEPS", desk.path(1, Desk.repeat("./", 11) + "sec"), "3 12");
        Desk.due("13 STEPS", desk.path(1, Desk.repeat("./", 12) + "sec"), "-3@24");
        Desk.due("13 STEPS", desk.path(1, "//" + Desk.repeat(".//", 12) + "@id"), "-3@38");
        Desk.due("no 13th STEP", desk.path(1, Desk.repeat("./", 12)), "-1@24");
        Desk.due("no 13th STEP", desk.path(1, Desk.repeat("./", 12) + "]"), "-1@24");
        Desk.due("4 brackets", desk.path(1, "sec[1][1][1][1]"), "3");
        Desk.due("5 brackets", desk.path(1, "sec[1][1][1][1][1]"), "-3@15");
        Desk.due("5 brackets", desk.path(1, "sec[1][1][1][1][x"), "-3@15");
        String name = Desk.repeat("n", 20);
        Desk.due("20 bytes", desk.path(1, "@" + name), "");
        Desk.due("21 bytes", desk.path(1, "@n" + name), "-3@1");
        Desk.due("21 bytes", desk.path(1, "a[n" + name + "='']"), "-3@2");
    }
}
