/** Promise 2: feed. */
public final class FeedTest {
    public static void main(String[] args) {
        order();
        room();
        Desk.end();
    }

    /** The highest byte of a number comes first, and the numbers in their order. */
    private static void order() {
        Desk press = new Desk();
        Desk.due("feed", press.feed(0x3c613e42, 0x43444546, 0x4748494a, 0x4b4c4d4e, 0x4f3c2f61), 20);
        Desk.due("feed again", press.feed(0x3e202020, 0x20202020, 0x20202020, 0x20202020, 0x20202020), 40);
        Desk.due("read", press.read(21), 3);
        Desk.due("length", press.node(2, 3), 14);
        for (int i = 0; i < 14; i++) {
            Desk.due("byte " + i, press.string(2, i), 'B' + i);
        }
        Desk other = new Desk();
        other.feed(-1, -1, -1, -1, -1);
        Desk.due("bytes that are no CHARS", other.read(20), -1);
        Desk.due("place of the first one", other.place(), 0);
    }

    private static void room() {
        Desk press = new Desk();
        for (int i = 1; i <= 300; i++) {
            Desk.due("feed " + i, press.feed(0x20202020, 0x20202020, 0x20202020, 0x20202020, 0x20202020), 20 * i);
        }
        Desk.due("feed without room", press.feed(1, 2, 3, 4, 5), -1);
        Desk.due("nothing came", press.count(5), 6000);
        Desk.due("read of too much", press.read(6001), 0);
        Desk.due("read of all", press.read(6000), -1);
        Desk.due("place behind all", press.place(), 6000);
        Desk.due("THE TAPE is empty", press.count(5), 0);
        Desk.due("feed with room again", press.feed(1, 2, 3, 4, 5), 20);
    }
}
