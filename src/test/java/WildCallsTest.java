import java.util.Random;

/** Every call must answer, whatever it is given in whatever state; what it answers must hang together. */
public final class WildCallsTest {
    private static final String[] PARTS = {"<", ">", "</", "/>", "<!--", "-->", "<!DOCTYPE a [", "]>", "<!ELEMENT ",
        "<!ATTLIST ", "a", "b", "A", "keep", "=", "'1'", "\"x\"", "(", ")", "|", ",", "*", "?", "#PCDATA", "EMPTY",
        "CDATA", "#IMPLIED", "#REQUIRED", " ", "&lt;", "&#65;", "&", "//", "/", "[", "]", "@", "..", ".", "text()",
        "last()", "12", "\u0000", "\u00ff", "<a>", "</a>", "<A keep='1'>", "</A>", "word "};
    private static final int[] EDGES = {-1, 0, 1, 2, 7, 20, 59, 60, 61, 600, Integer.MAX_VALUE, Integer.MIN_VALUE};

    public static void main(String[] args) {
        Random random = new Random(7);
        for (int run = 0; run < 600; run++) {
            Desk desk = new Desk();
            for (int turn = 0; turn < 5; turn++) {
                desk.read(random.nextBoolean() ? wildText(random) : likelyText(random));
                wildCalls(desk, random);
                desk.select(Math.max(0, random.nextInt(3)), wildText(random));
                wildCalls(desk, random);
            }
            hangsTogether(desk);
        }
        Desk.end();
    }

    private static String wildText(Random random) {
        StringBuilder text = new StringBuilder();
        int size = random.nextInt(30);
        for (int i = 0; i < size; i++) {
            text.append(PARTS[random.nextInt(PARTS.length)]);
        }
        return text.toString();
    }

    private static String likelyText(Random random) {
        String[] names = {"a", "A", "b"};
        StringBuilder text = new StringBuilder("<!DOCTYPE a [<!ELEMENT a (a|A|b)*><!ATTLIST A keep CDATA '1'>]><a>");
        int size = random.nextInt(40);
        for (int i = 0; i < size; i++) {
            String name = names[random.nextInt(3)];
            text.append('<').append(name).append('>').append(PARTS[10 + random.nextInt(4)]).append(" x</")
                    .append(name).append('>');
        }
        return text.append("</a>").toString();
    }

    private static void wildCalls(Desk desk, Random random) {
        int i = EDGES[random.nextInt(EDGES.length)];
        int k = EDGES[random.nextInt(EDGES.length)];
        TreePress press = desk.press;
        press.node(i, k);
        press.name(i, k);
        press.string(i, k);
        press.finding(i, k);
        press.told(i);
        press.set(i, k);
        press.line(i, k);
        press.at(i, k);
        press.count(i);
        press.read(i);
        press.select(i, k);
    }

    private static void hangsTogether(Desk desk) {
        TreePress press = desk.press;
        int nodes = press.count(0);
        int within = 0;
        for (int k = 0; k < nodes; k++) {
            within += press.node(k, 4) + press.node(k, 5);
            Desk.due("a NODE lies in an earlier one", press.node(k, 1) < k ? 1 : 0, 1);
            Desk.due("a STRING's end", press.string(k, press.node(k, 3)), -1);
        }
        Desk.due("all but the ROOT lie in a NODE", within, Math.max(0, nodes - 1));
        Desk.due("lines", press.line(press.count(3), 0), -9);
        Desk.due("findings", press.finding(Math.max(0, press.findings()), 0), -9);
    }
}
