import java.util.Random;

/** Every call must answer, whatever it is given in whatever state; what it answers must hang together. */
public final class WildCallsTest {
    private static final String[] PARTS = {"<", ">", "</", "/>", "<!--", "-->", "<!DOCTYPE a [", "]>", "<!ELEMENT ",
        "<!ATTLIST ", "a", "b", "A", "keep", "=", "'1'", "\"x\"", "(", ")", "|", ",", "*", "?", "#PCDATA", "EMPTY",
        "CDATA", "#IMPLIED", "#REQUIRED", " ", "&lt;", "&#65;", "&", "//", "/", "[", "]", "@", "..", ".", "text()",
        "last()", "12", "\u0000", "\u00ff", "<a>", "</a>", "<A keep='1'>", "</A>", "word "};
    private static final int[] EDGES = {-1, 0, 1, 2, 7, 20, 59, 60, 61, 600, Integer.MAX_VALUE, Integer.MIN_VALUE};

    public static void main(String[] args) {
        Random random = new Random(7);
        for (int run = 0; run < 1000; run++) {
            Desk desk = new Desk();
            for (int turn = 0; turn < 3; turn++) {
                desk.read(random.nextBoolean() ? wildText(random) : likelyText(random));
                wildCalls(desk, random);
                desk.select(Math.max(0, random.nextInt(3)), wildText(random));
                wildCalls(desk, random);
            }
            hangsTogether(desk);
        }
        Desk.end();
    }

    private static String wildText(Random random) {
        StringBuilder text = new StringBuilder();
        int size = random.nextInt(30);
        for (int i = 0; i < size; i++) {
            text.append(PARTS[random.nextInt(PARTS.length)]);
        }
        return text.toString();
    }

    private static String likelyText(Random random) {
        String[] names = {"a", "A", "b"};
        StringBuilder text = new StringBuilder("<!DOCTYPE a [<!ELEMENT a (a|A|b)*><!ATTLIST A keep CDATA '1'>]><a>");
        int size = random.nextInt(12);
        for (int i = 0; i < size; i++) {
            String name = names[random.nextInt(3)];
            text.append('<').append(name).append('>').append(PARTS[10 + random.nextInt(4)]).append(" x</")
                    .append(name).append('>');
        }
        return text.append("</a>").toString();
    }

    private static void wildCalls(Desk desk, Random random) {
        int i = EDGES[random.nextInt(EDGES.length)];
        int k = EDGES[random.nextInt(EDGES.length)];
        desk.node(i, k);
        desk.name(i, k);
        desk.string(i, k);
        desk.finding(i, k);
        desk.told(i);
        desk.set(i, k);
        desk.line(i, k);
        desk.at(i, k);
        desk.count(i);
        desk.read(i);
        desk.select(i, k);
    }

    private static void hangsTogether(Desk desk) {
        int nodes = desk.count(0);
        int within = 0;
        for (int k = 0; k < nodes; k++) {
            within += desk.node(k, 4) + desk.node(k, 5);
            Desk.due("a NODE lies in an earlier one", desk.node(k, 1) < k ? 1 : 0, 1);
            Desk.due("a STRING's end", desk.string(k, desk.node(k, 3)), -1);
        }
        Desk.due("all but the ROOT lie in a NODE", within, Math.max(0, nodes - 1));
        Desk.due("lines", desk.line(desk.count(3), 0), -9);
        Desk.due("findings", desk.finding(Math.max(0, desk.findings()), 0), -9);
    }
}
