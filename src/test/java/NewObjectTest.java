/** Promise 1: a new object has no DOCUMENT, and every call on it says so. */
public final class NewObjectTest {
    public static void main(String[] args) {
        Desk press = new Desk();
        Desk.due("place", press.place(), -1);
        Desk.due("node", press.node(0, 0), -9);
        Desk.due("name", press.name(0, 0), -1);
        Desk.due("string", press.string(0, 0), -1);
        Desk.due("findings", press.findings(), -1);
        Desk.due("finding", press.finding(0, 0), -9);
        Desk.due("select", press.select(0, 0), -9);
        Desk.due("told", press.told(0), -1);
        Desk.due("set", press.set(10, 10), -9);
        Desk.due("line", press.line(0, 0), -9);
        Desk.due("at", press.at(0, 0), -1);
        for (int what = 0; what <= 6; what++) {
            Desk.due("count " + what, press.count(what), 0);
        }
        Desk.due("read of nothing", press.read(0), -1);
        Desk.due("place of nothing", press.place(), 0);
        Desk.end();
    }
}
