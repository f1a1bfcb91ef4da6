import java.nio.ByteBuffer;
import java.util.ArrayList;
import java.util.Arrays;
import java.util.List;
import java.util.function.ToIntFunction;

/**
 * An UpdateDesk with documents in the notation of Docs, or as bytes. Nothing is promised behind an object's 512th
 * call, so calls are counted; a whole document is looked at on other objects, to which the same calls come again.
 */
final class Desk {
    static final int MOST_CALLS = 512;

    private final UpdateDesk x = new UpdateDesk();
    private final List<ToIntFunction<UpdateDesk>> past = new ArrayList<>();
    private int calls = 0;

    int feed(int a, int b, int c, int d, int e) {
        return doing(x -> x.feed(a, b, c, d, e));
    }

    int read(int slot, int n) {
        return doing(x -> x.read(slot, n));
    }

    int change(int n) {
        return doing(x -> x.change(n));
    }

    int apply(int slot) {
        return doing(x -> x.apply(slot));
    }

    boolean copy(int r, int s) {
        return doing(x -> x.copy(r, s) ? 1 : 0) == 1;
    }

    int place(int what) {
        return counted().place(what);
    }

    int many(int slot, int what) {
        return counted().many(slot, what);
    }

    int byteAt(int slot, int i) {
        return counted().byteAt(slot, i);
    }

    private int doing(ToIntFunction<UpdateDesk> call) {
        past.add(call);
        return call.applyAsInt(counted());
    }

    private UpdateDesk counted() {
        calls++;
        if (calls > MOST_CALLS) {
            throw new IllegalStateException("the test makes more calls than the document promises");
        }
        return x;
    }

    int callsLeft() {
        return MOST_CALLS - calls;
    }

    /** Feeds bytes, filled up with 0 to the next twenty. */
    Desk feed(byte[] bytes) {
        ByteBuffer in = ByteBuffer.wrap(Arrays.copyOf(bytes, (bytes.length + 19) / 20 * 20));
        while (in.hasRemaining()) {
            feed(in.getInt(), in.getInt(), in.getInt(), in.getInt(), in.getInt());
        }
        return this;
    }

    int read(int slot, byte[] bytes) {
        return feed(bytes).read(slot, bytes.length);
    }

    int read(int slot, String text) {
        return read(slot, Docs.of(text));
    }

    int change(byte[] bytes) {
        return feed(bytes).change(bytes.length);
    }

    int change(String text) {
        return change(Docs.of(text));
    }

    /** All bytes of a slot's document. */
    byte[] bytes(int slot) {
        UpdateDesk reader = again();
        int left = MOST_CALLS - past.size() - 1;
        byte[] out = new byte[Math.min(Math.max(reader.many(slot, 0), 0), 10_000)];
        for (int i = 0; i < out.length; i++) {
            if (left == 0) {
                reader = again();
                left = MOST_CALLS - past.size();
            }
            out[i] = (byte) reader.byteAt(slot, i);
            left--;
        }
        return out;
    }

    private UpdateDesk again() {
        if (past.size() > MOST_CALLS - 10) {
            throw new IllegalStateException("too many calls to do them again");
        }
        UpdateDesk other = new UpdateDesk();
        for (ToIntFunction<UpdateDesk> call : past) {
            call.applyAsInt(other);
        }
        return other;
    }

    /** A slot's document is just this one. */
    void holds(String what, int slot, String text) {
        Check.due(what, bytes(slot), Docs.of(text));
    }

    /** The latest fault is told so. */
    void tells(String what, int operator, int path) {
        Check.due(what + ": operator", place(0), operator);
        Check.due(what + ": path", place(1), path);
    }

    /** Bytes that are a document, with so many elements, for read() and for change(). */
    static void isDocument(String what, byte[] bytes, int elements) {
        Desk desk = new Desk();
        Check.due(what + ": read", desk.read(1, bytes), elements);
        Check.due(what + ": slot 1", desk.bytes(1), bytes);
        Check.due(what + ": change is -1", desk.change(bytes) == -1, false);
    }

    static void isDocument(String text, int elements) {
        isDocument(text, Docs.of(text), elements);
    }

    /** Bytes that are no document, for read() and for change(). */
    static void isNone(String what, byte[] bytes) {
        Desk desk = new Desk();
        desk.read(2, "{k:7}");
        Check.due(what + ": read", desk.read(2, bytes), -1);
        desk.holds(what + ": the slot stays", 2, "{k:7}");
        Check.due(what + ": change", desk.change(bytes), -1);
    }

    static void isNone(String text) {
        isNone(text, Docs.of(text));
    }

    /** A change without a fault, of so many paths. */
    static void isChange(String change, int paths) {
        Desk desk = new Desk();
        Check.due(change, desk.change(change), paths);
        desk.tells(change, -1, -1);
        Check.due(change + ": there is a change", desk.apply(0) == -2, false);
    }

    /** A change with a fault of 1 to 5, told with its operator and path. */
    static void hasFault(String change, int fault, int operator, int path) {
        Desk desk = new Desk();
        Check.due(change, desk.change(change), fault - 10);
        desk.tells(change, operator, path);
        Check.due(change + ": there is no change", desk.apply(0), -2);
    }

    /** A change done to a document: its answer, and the document behind it. */
    static void done(String before, String change, int answer, String after) {
        Desk desk = new Desk();
        String what = change + " to " + before;
        desk.read(0, before);
        Check.due(what + ": change is below 0", desk.change(change) < 0, false);
        Check.due(what + ": apply", desk.apply(0), answer);
        desk.holds(what, 0, after);
    }

    /** A change that ends by a fault of 6 to 9: the document stays. */
    static void fails(String before, String change, int fault) {
        done(before, change, fault - 20, before);
    }
}
