import java.util.Random;

/** What an object is asked now is answered as if it had been asked nothing before. */
public final class HistoryTest {
    private static final String[] DOCUMENTS = {
        "<a/>",
        "<a c='x' i='x'>t<b/>u</a>",
        "<!DOCTYPE a [<!ELEMENT a ANY><!ATTLIST a i ID #IMPLIED>]><a i='x'><a i='y'/><a i='x'/></a>",
        "<!DOCTYPE a [<!ELEMENT a ANY><!ATTLIST a c CDATA #IMPLIED i ID #IMPLIED>]><a c='x' i='x'><a i='y'/></a>",
        "<!DOCTYPE b [<!ELEMENT b (c?,d)*><!ELEMENT c (#PCDATA|d)*><!ELEMENT d EMPTY>]><b><c>t<d/></c><d/><d/></b>",
        "<!DOCTYPE b [<!ELEMENT b (c|d)><!ELEMENT c (d,d)><!ELEMENT d (d?,c?)>]><b><c><d/></c><d/></b>",
        "<!DOCTYPE b [<!ELEMENT b ((c|d),(e,f))><!ELEMENT c EMPTY>]><b> <c/><e/>\n<f/></b>",
        "<!DOCTYPE b [<!ELEMENT b (c,(d|e),f)><!ELEMENT b EMPTY>]><b>x<c/><e/>y<f/></b>",
        "<!DOCTYPE a [<!ATTLIST a p (u|v) 'w' q CDATA #FIXED '1' r ID 's'>]><a q='2'><a p='u' r='s'/></a>",
        "<!DOCTYPE a [<!ATTLIST a p (w|u) 'w' q CDATA #REQUIRED><!ELEMENT a (#PCDATA|a)*>]><a>z<a q=''/></a>",
        "<!DOCTYPE a [<!ATTLIST K keep CDATA '1'>]><a>1 2<K>3 4</K>5<K keep='0'>6</K></a>",
        "<a>1 2<K keep='1'>3 4</K>5 <k keep='1'>6 7</k></a>",
        "<a>1 2 3 4 5 6 7 8 9</a>",
        "<a><b><c><d>deep</d></c></b></a>",
        "<x y='' z='one' w='two'>one<y>two</y>three</x>",
    };
    private static final String[] REFUSED = {
        "", "<a", "<a><b></a>", "<!DOCTYPE a [<!ELEMENT a (b|(c,(d|e", "<!DOCTYPE a [<!ELEMENT a (b,c?)><!ELEMENT b (c|d,",
        "<!DOCTYPE a [<!ATTLIST a p (u|v) 'u' q ID 'x' r CDATA", "<a i='x'><a i='x' c='y'>text</b>",
        "<a>" + Desk.repeat("x", 300) + "&", "<a x='" + Desk.repeat("x", 300) + "<", "<K keep='1'>1 2<K keep='1'>3 4",
    };
    private static final String[] PATHS = {
        "/", ".", "//*", "//text()", "//@*", "//*[1]", "//*[last()]", "//*[@i]", "//*[@i='x']", "//*[.='']", "//*[b][1]",
        "/*/*[2]/..", "//a[@c='x'][@i]", "//d[1]/c", "//..", "nothing", "//*[c]", "a/", "a[1", "//*[.='x", "b[@x='1'][",
    };

    public static void main(String[] args) {
        Random random = new Random(11);
        for (int run = 0; run < 600; run++) {
            documents(random);
            paths(random);
            settings(random);
        }
        fullAgain();
        manyNamesAgain();
        tokensAgain();
        manyTokensAgain();
        Desk.end();
    }

    private static String any(Random random, String[] texts) {
        return texts[random.nextInt(texts.length)];
    }

    private static String stateOf(Desk desk, String text) {
        desk.read(text);
        desk.select(0, "//*");
        desk.set(3, 3);
        return desk.state();
    }

    private static void documents(Random random) {
        Desk desk = new Desk();
        for (int turn = 0; turn < 5; turn++) {
            desk.read(random.nextInt(3) == 0 ? any(random, REFUSED) : any(random, DOCUMENTS));
        }
        String text = any(random, DOCUMENTS);
        Desk.due("a DOCUMENT behind others: " + text, stateOf(desk, text), stateOf(new Desk(), text));
    }

    private static void paths(Random random) {
        String text = any(random, DOCUMENTS);
        Desk desk = new Desk();
        desk.read(text);
        for (int turn = 0; turn < 6; turn++) {
            desk.select(0, any(random, PATHS));
        }
        Desk other = new Desk();
        other.read(text);
        String path = any(random, PATHS);
        Desk.due("a PATH behind others: " + path, desk.path(1, path), other.path(1, path));
    }

    private static void settings(Random random) {
        Desk desk = new Desk();
        desk.read(any(random, DOCUMENTS));
        desk.set(1 + random.nextInt(4), 1 + random.nextInt(4));
        String text = any(random, DOCUMENTS);
        desk.read(text);
        desk.set(1 + random.nextInt(4), 1 + random.nextInt(4));
        int width = 1 + random.nextInt(4);
        int height = 1 + random.nextInt(4);
        Desk other = new Desk();
        other.read(text);
        Desk.due("how many lines", desk.set(width, height), other.set(width, height));
        Desk.due("a SETTING behind others: " + text, desk.lines(), other.lines());
    }

    /** What one DOCUMENT takes up is free again for the next one. */
    private static void fullAgain() {
        String[] texts = {"<a>" + Desk.repeat("x", 2000) + "</a>", "<a b='" + Desk.repeat("x", 2000) + "'/>",
            "<a>" + Desk.repeat("<b/>", 498) + "</a>", "<a b='" + Desk.repeat("x", 1000) + "'>" + Desk.repeat("y", 1000) + "</a>",
            "<!DOCTYPE a [" + Desk.repeat("<!ELEMENT a (b,c,d,e,f,g,h,i,j,k,l)>", 30) + "]><a/>"};
        int[] nodes = {3, 3, 500, 4, 2};
        for (int i = 0; i < texts.length; i++) {
            Desk desk = new Desk();
            for (int turn = 0; turn < 4; turn++) {
                Desk.due("full again, " + turn, desk.read(texts[i]), nodes[i]);
            }
            Desk other = new Desk();
            for (int turn = 0; turn < 3; turn++) {
                other.read(texts[i].substring(0, texts[i].length() - 1));
            }
            Desk.due("full behind refused ones", other.read(texts[i]), nodes[i]);
        }
    }

    /** NAMES of one DOCUMENT are none of another one's: those of both would be more than one text can hold. */
    private static void manyNamesAgain() {
        StringBuilder text = new StringBuilder("<!DOCTYPE a [");
        for (int spec = 0; spec < 28; spec++) {
            text.append("<!ELEMENT a").append(spec).append(" (");
            for (int i = 0; i < 40; i++) {
                text.append(i == 0 ? "" : "|").append((char) ('A' + spec % 26)).append((char) ('a' + i % 26))
                        .append(i < 26 ? "" : "-").append(spec < 26 ? "" : ".");
            }
            text.append(")>");
        }
        text.append("]><b c='' d='' e='' f='' g='' h='' i='' j=''/>");
        Desk desk = new Desk();
        Desk.due("many NAMES", desk.read(text.toString()), 10);
        Desk.due("few NAMES", desk.read("<a/>"), 2);
        Desk.due("many NAMES again", desk.read(text.toString()), 10);
        Desk.due("the last one", desk.name(9), "j");
    }

    /** Nor are TOKENS of one DOCUMENT those of a RULE of another one. */
    private static void tokensAgain() {
        Desk desk = new Desk();
        for (int turn = 0; turn < 2; turn++) {
            Desk.due("three TOKENS", desk.read("<!DOCTYPE a [<!ATTLIST a x (p|q|r) 'r'>]><a/>"), 3);
            Desk.due("one of them", desk.allFindings(), "7:1");
        }
        for (int turn = 0; turn < 2; turn++) {
            desk.read("<!DOCTYPE a [<!ATTLIST a x (p) 'q' y (q) 'q' z (r) 'p'>]><a x='r' y='q' z='r'/>");
            Desk.due("one TOKEN each", desk.allFindings(), "5:0 5:2 7:1 10:2");
        }
    }

    private static String tokens(int lists) {
        StringBuilder text = new StringBuilder("<!DOCTYPE a [");
        for (int list = 0; list < lists; list++) {
            text.append("<!ATTLIST ").append((char) ('A' + list));
            for (int i = 0; i < 10; i++) {
                text.append(' ').append((char) ('A' + i)).append(" (1|2|3|4|5|6|7|8) '8'");
            }
            text.append('>');
        }
        return text.toString();
    }

    /** TOKENS of a text that was refused take no room: those of both are more than one text can hold. */
    private static void manyTokensAgain() {
        Desk desk = new Desk();
        String refused = tokens(23);
        Desk.due("many TOKENS", desk.read(refused), -1);
        Desk.due("refused at its end", desk.place(), refused.length());
        Desk.due("many TOKENS again", desk.read(tokens(16) + "]><_/>"), 2);
        Desk.due("all of them are kept", desk.allFindings(), "6:1 7:1");
    }
}
