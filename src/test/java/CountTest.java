/** Promise 15: count. */
public final class CountTest {
    public static void main(String[] args) {
        Desk desk = new Desk();
        counts("new", desk, 0, 0, 0, 0, 0, 0, 0);
        desk.feed("<a>");
        counts("fed", desk, 0, 0, 0, 0, 0, 20, 0);
        desk.read(3);
        counts("refused", desk, 0, 0, 0, 0, 0, 0, 0);
        desk.read("<!DOCTYPE a [<!ELEMENT a ANY><!ELEMENT b ANY><!ELEMENT a ANY>"
                + "<!ATTLIST a x ID #IMPLIED x CDATA 'y'><!ATTLIST b y CDATA 'z' x CDATA #IMPLIED>]>"
                + "<a>one<b><b/></b><b>two</b> three</a>");
        counts("read", desk, 11, 3, 3, 0, 0, 0, 3);
        desk.set(6, 1);
        counts("set", desk, 11, 3, 3, 2, 2, 0, 3);
        desk.feed("<a><b>");
        desk.read(6);
        counts("refused again", desk, 11, 3, 3, 2, 2, 0, 3);
        desk.read("<a/>");
        counts("read again", desk, 2, 0, 0, 0, 0, 0, 1);
        desk.set(6, 1);
        counts("without a WORD", desk, 2, 0, 0, 0, 0, 0, 1);
        desk.read(Desk.repeat("<a>", 30) + Desk.repeat("</a>", 30));
        Desk.due("the deepest", desk.count(6), 30);
        int[] wild = {-1, 7, Integer.MAX_VALUE, Integer.MIN_VALUE};
        for (int what : wild) {
            Desk.due("what " + what, desk.count(what), -9);
        }
        Desk.end();
    }

    private static void counts(String when, Desk desk, int... due) {
        for (int what = 0; what < due.length; what++) {
            Desk.due(when + ": count(" + what + ")", desk.count(what), due[what]);
        }
    }
}
