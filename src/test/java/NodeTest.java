/** Promises 5, 6 and 7: node, name and string. */
public final class NodeTest {
    private static final String TEXT = "<!DOCTYPE doc [<!ATTLIST b lang CDATA 'en' n CDATA '7' o CDATA #IMPLIED>]>"
            + "<doc id='q'>one<b n='&lt;'>two<!--x-->three</b><c/> <d><e>f</e></d></doc>";

    public static void main(String[] args) {
        Desk desk = Desk.taken(TEXT, 14);
        facts(desk);
        names(desk);
        strings(desk);
        edges(desk);
        manyNames();
        Desk.end();
    }

    private static void facts(Desk desk) {
        int[][] due = {
            {0, -1, 0, 13, 0, 1, 0},
            {1, 0, 3, 13, 1, 5, 0},
            {2, 1, 2, 1, 0, 0, 0},
            {3, 1, 0, 3, 0, 0, 0},
            {1, 1, 1, 8, 2, 2, 0},
            {2, 4, 1, 1, 0, 0, 0},
            {2, 4, 4, 2, 0, 0, 1},
            {3, 4, 0, 3, 0, 0, 0},
            {3, 4, 0, 5, 0, 0, 0},
            {1, 1, 1, 0, 0, 0, 0},
            {3, 1, 0, 1, 0, 0, 0},
            {1, 1, 1, 1, 0, 1, 0},
            {1, 11, 1, 1, 0, 1, 0},
            {3, 12, 0, 1, 0, 0, 0},
        };
        for (int k = 0; k < due.length; k++) {
            for (int what = 0; what < 7; what++) {
                Desk.due("node(" + k + ", " + what + ")", desk.node(k, what), due[k][what]);
            }
        }
    }

    private static void names(Desk desk) {
        String[] due = {"", "doc", "id", "", "b", "n", "lang", "", "", "c", "", "d", "e", ""};
        for (int k = 0; k < due.length; k++) {
            Desk.due("NAME of " + k, desk.name(k), due[k]);
        }
    }

    private static void strings(Desk desk) {
        String[] due = {"onetwothree f", "onetwothree f", "q", "one", "twothree", "<", "en", "two", "three", "", " ",
            "f", "f", "f"};
        for (int k = 0; k < due.length; k++) {
            Desk.due("STRING of " + k, desk.string(k), due[k]);
        }
    }

    /** NAMES that are alike, or of one length, stay apart. */
    private static void manyNames() {
        StringBuilder text = new StringBuilder("<a>");
        for (int i = 0; i < 400; i++) {
            text.append("<n").append(i).append("/>");
        }
        String whole = text.append("</a>").toString();
        Desk desk = Desk.taken(whole, 402);
        for (int i = 0; i < 400; i += 19) {
            Desk.due("NAME of " + (i + 2), desk.name(i + 2), "n" + i);
        }
        desk = Desk.taken(whole, 402);
        for (int i = 0; i < 400; i += 7) {
            Desk.due("the NODE of the NAME", desk.path(1, "n" + i), "" + (i + 2));
        }
    }

    private static void edges(Desk desk) {
        int[] wild = {-1, 14, 600, Integer.MAX_VALUE, Integer.MIN_VALUE};
        for (int k : wild) {
            Desk.due("node " + k, desk.node(k, 0), -9);
            Desk.due("name " + k, desk.name(k, 0), -1);
            Desk.due("string " + k, desk.string(k, 0), -1);
            Desk.due("name byte " + k, desk.name(1, k), -1);
            Desk.due("string byte " + k, desk.string(2, k), -1);
        }
        Desk.due("what 7", desk.node(0, 7), -9);
        Desk.due("what -1", desk.node(0, -1), -9);
        Desk.due("last byte of a NAME", desk.name(1, 2), 'c');
        Desk.due("behind a NAME", desk.name(1, 3), -1);
        Desk.due("last byte of a STRING", desk.string(0, 12), 'f');
        Desk.due("behind a STRING", desk.string(0, 13), -1);
    }
}
