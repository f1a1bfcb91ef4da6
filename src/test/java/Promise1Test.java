/** Promise 1: a new object. */
public final class Promise1Test {
    public static void main(String[] args) {
        UpdateDesk x = new UpdateDesk();
        for (int slot = 0; slot < 4; slot++) {
            Check.due("bytes of slot " + slot, x.many(slot, 0), 5);
            Check.due("elements of slot " + slot, x.many(slot, 1), 0);
            Check.due("depth of slot " + slot, x.many(slot, 2), 1);
            for (int i = 0; i < 5; i++) {
                Check.due("byte " + i + " of slot " + slot, x.byteAt(slot, i), i == 0 ? 5 : 0);
            }
            Check.due("no byte 5", x.byteAt(slot, 5), -1);
            Check.due("no change", x.apply(slot), -2);
        }
        Check.due("no operator", x.place(0), -1);
        Check.due("no path", x.place(1), -1);
        Check.due("nothing on the tape to read", x.read(0, 1), -2);
        Check.due("nothing on the tape to change by", x.change(1), -2);
        Check.due("no bytes are no document", x.read(0, 0), -1);
        Check.due("no bytes are no change", x.change(0), -1);
        Check.due("the first feed", x.feed(0, 0, 0, 0, 0), 20);
        UpdateDesk other = new UpdateDesk();
        Check.due("another object has a tape of its own", other.feed(0, 0, 0, 0, 0), 20);
        Check.end();
    }
}
