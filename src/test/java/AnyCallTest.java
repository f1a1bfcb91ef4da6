import java.nio.ByteBuffer;
import java.util.Arrays;
import java.util.Random;

/**
 * Any arguments in any state, by fixed seeds: no call throws, an answer is that of Model, and another object to which
 * the same calls come answers alike.
 */
public final class AnyCallTest {
    private static final int RUNS = 1500;
    private static final int MOST_CALLS = 512;
    private static final int[] EDGES = {Integer.MIN_VALUE, Integer.MIN_VALUE + 1, -2001, -2000, -256, -20, -5, -4, -3, -2,
        -1, 0, 1, 2, 3, 4, 5, 7, 12, 19, 20, 21, 40, 255, 256, 1980, 1999, 2000, 2001, 65536, Integer.MAX_VALUE - 1,
        Integer.MAX_VALUE};
    private static final String[] TEXTS = {"{}", "{a:1}", "{a:-1,r:[1,2,1],t:'x'}",
        "{d:{e:[{f:null}]},n:9223372036854775807L}", "{$set:{a:1}}", "{$set:{'a.b':1}}", "{$inc:{a:1,n:1}}",
        "{$push:{r:1,'d.e':{}}}", "{$pull:{r:1,t:1}}", "{$unset:{'r.0':1,d:1},$addToSet:{r:7}}", "{$set:{a:1,'a.b':1}}",
        "{$set:{'':1}}", "{$inc:{a:'x'}}", "{$push:1}", "{x:{}}", "{$push:{'a.b.c.d.e.f.g.h':[[[[[[[[1]]]]]]]]}}"};

    private final Random random;
    private final String run;
    private final UpdateDesk desk = new UpdateDesk();
    private final UpdateDesk other = new UpdateDesk();
    private final Model model = new Model();
    private int calls = 0;
    private int fed = 0;

    private AnyCallTest(int run) {
        this.run = "run " + run;
        this.random = new Random(run);
    }

    public static void main(String[] args) {
        Check.sentence("LANGUAGE.md, 7", "No call may ever throw or fail to end, for any arguments in any state");
        for (int run = 0; run < RUNS && Check.clean(); run++) {
            AnyCallTest test = new AnyCallTest(run);
            while (test.calls < MOST_CALLS && Check.clean()) {
                test.call();
            }
        }
        Check.end();
    }

    private void due(String what, int got, int again, int want) {
        calls++;
        Check.due(run + ", call " + calls + ": " + what, got, want);
        Check.due(run + ", call " + calls + ": the other object's " + what, again, want);
    }

    private int any() {
        switch (random.nextInt(5)) {
            case 0:
                return EDGES[random.nextInt(EDGES.length)];
            case 1:
                return random.nextInt();
            default:
                return random.nextInt(4);
        }
    }

    private void call() {
        int kind = random.nextInt(16);
        int a = any();
        int b = kind < 8 && random.nextInt(4) > 0 ? fed : any();
        if (kind < 2) {
            feed(any(), any(), any(), any(), any());
        } else if (kind < 5) {
            feedText();
        } else if (kind == 5) {
            due("read(" + a + ", " + b + ")", desk.read(a, b), other.read(a, b), model.read(a, b));
        } else if (kind < 8) {
            due("change(" + b + ")", desk.change(b), other.change(b), model.change(b));
        } else if (kind < 11) {
            due("apply(" + a + ")", desk.apply(a), other.apply(a), model.apply(a));
        } else if (kind == 11) {
            due("place(" + a + ")", desk.place(a), other.place(a), model.place(a));
        } else if (kind == 12) {
            due("many(" + a + ", " + b + ")", desk.many(a, b), other.many(a, b), model.many(a, b));
        } else if (kind < 15) {
            int i = random.nextBoolean() ? b : random.nextInt(80);
            due("byteAt(" + a + ", " + i + ")", desk.byteAt(a, i), other.byteAt(a, i), byteOf(a, i));
        } else {
            due("copy(" + a + ", " + b + ")", number(desk.copy(a, b)), number(other.copy(a, b)), number(model.copy(a, b)));
        }
    }

    private static int number(boolean truth) {
        return truth ? 1 : 0;
    }

    private int byteOf(int slot, int i) {
        byte[] bytes = slot < 0 || slot > 3 ? new byte[0] : model.bytes(slot);
        return i < 0 || i >= bytes.length ? -1 : bytes[i] & 255;
    }

    private void feed(int a, int b, int c, int d, int e) {
        due("feed", desk.feed(a, b, c, d, e), other.feed(a, b, c, d, e), model.feed(a, b, c, d, e));
    }

    /** A document, in which now and then a byte is any other one. */
    private void feedText() {
        byte[] bytes = Docs.of(TEXTS[random.nextInt(TEXTS.length)]);
        fed = bytes.length;
        if (random.nextInt(6) == 0) {
            bytes[random.nextInt(bytes.length)] = (byte) random.nextInt(256);
        }
        ByteBuffer in = ByteBuffer.wrap(Arrays.copyOf(bytes, (bytes.length + 19) / 20 * 20));
        while (in.hasRemaining() && calls < MOST_CALLS) {
            feed(in.getInt(), in.getInt(), in.getInt(), in.getInt(), in.getInt());
        }
    }
}
