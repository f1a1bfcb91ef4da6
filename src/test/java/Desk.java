/** An UpdateDesk with documents in the notation of Docs, or as bytes. */
final class Desk {
    final UpdateDesk x = new UpdateDesk();

    /** Feeds bytes, filled up with 0 to the next twenty. */
    Desk feed(byte[] bytes) {
        for (int at = 0; at < bytes.length; at += 20) {
            x.feed(four(bytes, at), four(bytes, at + 4), four(bytes, at + 8), four(bytes, at + 12), four(bytes, at + 16));
        }
        return this;
    }

    int read(int slot, byte[] bytes) {
        return feed(bytes).x.read(slot, bytes.length);
    }

    int read(int slot, String text) {
        return read(slot, Docs.of(text));
    }

    int change(byte[] bytes) {
        return feed(bytes).x.change(bytes.length);
    }

    int change(String text) {
        return change(Docs.of(text));
    }

    byte[] bytes(int slot) {
        byte[] out = new byte[Math.max(x.many(slot, 0), 0)];
        for (int i = 0; i < out.length; i++) {
            out[i] = (byte) x.byteAt(slot, i);
        }
        return out;
    }

    /** Whether a slot's document is just this one. */
    void holds(String what, int slot, String text) {
        Check.due(what, bytes(slot), Docs.of(text));
    }

    /** The change done to a new desk's document: its answer, and the document behind it. */
    static void done(String before, String change, int answer, String after) {
        Desk desk = new Desk();
        String what = change + " to " + before;
        desk.read(0, before);
        Check.due(what + ": change", desk.change(change) < 0, false);
        Check.due(what + ": apply", desk.x.apply(0), answer);
        desk.holds(what, 0, after);
    }

    /** A change of one operator and one path that ends by a fault: the document stays. */
    static void fails(String before, String change, int fault) {
        done(before, change, fault - 20, before);
    }

    private static int four(byte[] bytes, int at) {
        int out = 0;
        for (int i = at; i < at + 4; i++) {
            out = out << 8 | (i < bytes.length ? bytes[i] & 255 : 0);
        }
        return out;
    }
}
