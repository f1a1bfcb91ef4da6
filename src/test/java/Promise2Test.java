/** Promise 2: feed. */
public final class Promise2Test {
    public static void main(String[] args) {
        highestByteFirst();
        upToTwoThousand();
        fullTapeIsKept();
        Check.end();
    }

    private static void highestByteFirst() {
        UpdateDesk x = new UpdateDesk();
        // A document of a whole number 'a' and a 64 bit number 'b', all in twenty and a bit.
        Check.due("feed", x.feed(0x17000000, 0x10610001, 0x02038412, 0x6200F1F2, 0xF3F4F5F6), 20);
        Check.due("feed", x.feed(0xF7F80000, 0x7F000000, 0, 0, 0), 40);
        Check.due("read", x.read(0, 23), 2);
        int[] due = {0x17, 0, 0, 0, 0x10, 0x61, 0, 1, 2, 3, 0x84, 0x12, 0x62, 0,
            0xF1, 0xF2, 0xF3, 0xF4, 0xF5, 0xF6, 0xF7, 0xF8, 0};
        for (int i = 0; i < due.length; i++) {
            Check.due("byte " + i, x.byteAt(0, i), due[i]);
        }
    }

    private static void upToTwoThousand() {
        UpdateDesk x = new UpdateDesk();
        for (int n = 1; n <= 100; n++) {
            Check.due("feed " + n, x.feed(-1, -1, -1, -1, -1), 20 * n);
        }
        Check.due("feed 101", x.feed(0, 0, 0, 0, 0), -1);
        Check.due("feed 102", x.feed(0, 0, 0, 0, 0), -1);
        Check.due("one more than there are", x.read(0, 2001), -2);
        Check.due("all of them", x.read(0, 2000), -1);
        Check.due("the tape is empty then", x.feed(0, 0, 0, 0, 0), 20);
    }

    private static void fullTapeIsKept() {
        Desk desk = new Desk();
        byte[] bytes = Docs.of("{t:'" + Docs.times("x", 2000 - 13) + "'}");
        Check.due("the test's document", bytes.length, 2000);
        desk.feed(bytes);
        Check.due("no room", desk.x.feed(1, 2, 3, 4, 5), -1);
        Check.due("read", desk.x.read(3, 2000), 1);
        Check.due("the document", desk.bytes(3), bytes);
    }
}
