/** Promise 2: feed. */
public final class Promise2Test {
    private static final String PLACE = "Promise 2";

    public static void main(String[] args) {
        behindThose();
        highestFirst();
        upToTwoThousand();
        fullTapeStays();
        Check.end();
    }

    private static void behindThose() {
        Check.sentence(PLACE, "Twenty bytes come behind those on the tape");
        Desk desk = new Desk();
        byte[] bytes = Docs.of("{t:'the quick brown fox jumps over the lazy dog, and so on, and so on'}");
        desk.feed(bytes);
        Check.due("read", desk.read(0, bytes.length), 1);
        Check.due("in their order", desk.bytes(0), bytes);
    }

    private static void highestFirst() {
        Check.sentence(PLACE, "four of each number, the highest first: how many there are.");
        Desk desk = new Desk();
        Check.due("feed", desk.feed(0x17000000, 0x10610001, 0x02038412, 0x6200F1F2, 0xF3F4F5F6), 20);
        Check.due("feed", desk.feed(0xF7F80000, 0x7F000000, 0, 0, 0), 40);
        Check.due("read", desk.read(0, 23), 2);
        int[] due = {0x17, 0, 0, 0, 0x10, 0x61, 0, 1, 2, 3, 0x84, 0x12, 0x62, 0,
            0xF1, 0xF2, 0xF3, 0xF4, 0xF5, 0xF6, 0xF7, 0xF8, 0};
        for (int i = 0; i < due.length; i++) {
            Check.due("byte " + i, desk.byteAt(0, i), due[i]);
        }
        for (int value : new int[] {-1, Integer.MIN_VALUE, Integer.MAX_VALUE, 0, 0x80FF7F01}) {
            Desk other = new Desk();
            other.feed(0x0C000000, 0x10610000 | value >>> 24, value << 8, 0, 0);
            Check.due("read " + value, other.read(0, 12), 1);
            for (int i = 0; i < 4; i++) {
                Check.due("byte " + i + " of " + value, other.byteAt(0, 7 + i), value >> 24 - 8 * i & 255);
            }
        }
    }

    private static void upToTwoThousand() {
        Check.sentence(PLACE, "-1, doing nothing, when there would be more than 2,000.");
        Desk desk = new Desk();
        for (int n = 1; n <= 100; n++) {
            Check.due("feed " + n, desk.feed(-1, -1, -1, -1, -1), 20 * n);
        }
        for (int n = 101; n <= 110; n++) {
            Check.due("feed " + n, desk.feed(0, 0, 0, 0, 0), -1);
        }
        Check.due("one more than there are", desk.read(0, 2001), -2);
        Check.due("one more than there are", desk.change(2001), -2);
        Check.due("still full", desk.feed(0, 0, 0, 0, 0), -1);
        Check.due("all of them", desk.read(0, 2000), -1);
        Check.due("there is room again", desk.feed(0, 0, 0, 0, 0), 20);
    }

    private static void fullTapeStays() {
        Check.sentence(PLACE, "-1, doing nothing, when there would be more than 2,000.");
        byte[] bytes = Docs.of(Docs.large("t", 2000));
        Desk desk = new Desk();
        desk.read(1, "{a:1}");
        desk.change("{$set:{b:2}}");
        desk.feed(bytes);
        Check.due("no room", desk.feed(1, 2, 3, 4, 5), -1);
        Check.due("no room", desk.feed(-1, -1, -1, -1, -1), -1);
        Check.due("read", desk.read(3, 2000), 1);
        Check.due("the document", desk.bytes(3), bytes);
        desk.holds("another slot", 1, "{a:1}");
        Check.due("the change", desk.apply(1), 1);
        // The tape is filled once more, to its end.
        for (int n = 1; n <= 100; n++) {
            Check.due("feed " + n, desk.feed(n, n, n, n, n), 20 * n);
        }
        Check.due("no room", desk.feed(1, 2, 3, 4, 5), -1);
    }
}
