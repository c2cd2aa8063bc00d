/** Promise 4: place tells of the latest read() or select(). */
public final class PlaceTest {
    public static void main(String[] args) {
        Desk desk = new Desk();
        Desk.due("none yet", desk.place(), -1);
        desk.read("<a><b></a>");
        Desk.due("ILL by NAMES", desk.place(), 8);
        Desk.due("n that may not be", desk.read(1), 0);
        Desk.due("nothing happened", desk.place(), 8);
        Desk.due("select without a DOCUMENT", desk.select(0, 0), -9);
        Desk.due("nothing happened", desk.place(), 8);
        desk.read("<a>b</a>");
        Desk.due("good", desk.place(), -1);
        desk.select(0, "a[");
        Desk.due("an ILL PATH", desk.place(), 2);
        desk.select(0, "a");
        Desk.due("a good PATH", desk.place(), -1);
        desk.select(0, "a/" + Desk.repeat("n", 21));
        Desk.due("a PATH with a BOUND", desk.place(), 2);
        desk.select(0, -1);
        Desk.due("n that may not be", desk.place(), 2);
        desk.set(5, 5);
        Desk.due("set is none of these", desk.place(), 2);
        desk.read("<a>" + Desk.repeat("x", 2001) + "</a>");
        Desk.due("BOUND", desk.place(), 2003);
        desk.select(0, "/");
        Desk.due("good again", desk.place(), -1);
        Desk.end();
    }
}
