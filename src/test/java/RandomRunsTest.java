import java.nio.ByteBuffer;
import java.util.Arrays;
import java.util.Random;

/** Runs of calls by a fixed seed, answered by UpdateDesk and by Model: both answer alike. */
public final class RandomRunsTest {
    private static final int RUNS = 4000;
    /** 100 calls of feed, and those that look at what came of them. */
    private static final int LONGEST_STEP = 160;
    private static final String[] NAMES = {"a", "b", "c", "0", "1", "2", "9", "10", "11", "00", "01", "x y", "\u00e9"};
    private static final String[] OPERATORS = {"$set", "$unset", "$inc", "$push", "$pull", "$addToSet"};
    private static final String[] VALUES = {"0", "1", "2", "-1", "2147483647", "-2147483648", "0L", "1L", "2L",
        "9223372036854775807L", "-9223372036854775808L", "true", "false", "null", "''", "'x'", "'y\u20ac'",
        "{}", "[]", "[1]", "[1L]", "{a:1}", "{a:1L}", "{b:[1,2]}", "[0,1,2,3,4,5,6,7,8,9,10]", "[[1],[1],{a:1}]"};

    private final Random random;
    private final Desk desk = new Desk();
    private final Model model = new Model();
    private final int run;
    private static final int[] ANSWERS = new int[40];

    private RandomRunsTest(int run) {
        this.run = run;
        this.random = new Random(run);
    }

    public static void main(String[] args) {
        for (int run = 0; run < RUNS && Check.clean(); run++) {
            new RandomRunsTest(run).calls();
        }
        for (int answer = -14; answer <= -5; answer++) {
            Check.due("some call answers " + answer, answer == -10 || ANSWERS[20 + answer] > 0, true);
        }
        Check.end();
    }

    private void calls() {
        for (int n = 0; desk.callsLeft() > LONGEST_STEP && Check.clean(); n++) {
            int kind = random.nextInt(10);
            if (kind < 3) {
                give(n < 4 || random.nextInt(3) > 0 ? document(random.nextInt(30) == 0 ? 17 : 5) : "{a:[1,2,1],b:{c:1}}", true);
            } else if (kind < 7) {
                give(change(), false);
                applyAll();
            } else if (kind == 7) {
                int r = random.nextInt(6) - 1;
                int s = random.nextInt(6) - 1;
                Check.due(run + ": copy", desk.copy(r, s), model.copy(r, s));
            } else {
                applyAll();
            }
            look();
        }
        for (int slot = 0; slot < 4; slot++) {
            Check.due(run + ": slot " + slot, desk.bytes(slot), model.bytes(slot));
        }
    }

    private void applyAll() {
        int from = random.nextInt(10) == 0 ? -1 : 0;
        for (int slot = from; slot < 4 - from; slot++) {
            int answer = desk.apply(slot);
            Check.due(run + ": apply", answer, model.apply(slot));
            places();
            ANSWERS[20 + Math.min(answer, 19)]++;
        }
    }

    private void places() {
        for (int what = 0; what < 2; what++) {
            Check.due(run + ": place", desk.place(what), model.place(what));
        }
    }

    /** Now and then a byte of it, or how many there are, is another. */
    private void give(String text, boolean reading) {
        byte[] bytes = Docs.of(text);
        if (random.nextInt(8) == 0) {
            bytes[random.nextInt(bytes.length)] += random.nextBoolean() ? 1 : random.nextInt(256);
        }
        bytes = Arrays.copyOf(bytes, Math.min(bytes.length, 2000));
        for (int at = 0; at < bytes.length; at += 20) {
            ByteBuffer in = ByteBuffer.wrap(Arrays.copyOfRange(bytes, at, at + 20));
            int a = in.getInt();
            int b = in.getInt();
            int c = in.getInt();
            int d = in.getInt();
            int e = in.getInt();
            Check.due(run + ": feed", desk.feed(a, b, c, d, e), model.feed(a, b, c, d, e));
        }
        int n = bytes.length + (random.nextInt(20) == 0 ? random.nextInt(40) - 20 : 0);
        if (reading) {
            int slot = random.nextInt(20) == 0 ? random.nextInt(8) - 2 : random.nextInt(4);
            Check.due(run + ": read " + text, desk.read(slot, n), model.read(slot, n));
        } else {
            int answer = desk.change(n);
            Check.due(run + ": change " + text, answer, model.change(n));
            ANSWERS[20 + Math.min(answer, 19)]++;
        }
        places();
    }

    /** At each slot's numbers, and at a few of its bytes. */
    private void look() {
        for (int slot = 0; slot < 4; slot++) {
            for (int what = 0; what < 3; what++) {
                Check.due(run + ": many", desk.many(slot, what), model.many(slot, what));
            }
            byte[] bytes = model.bytes(slot);
            int i = random.nextInt(bytes.length + 2) - 1;
            Check.due(run + ": byte " + i, desk.byteAt(slot, i), i < 0 || i >= bytes.length ? -1 : bytes[i] & 255);
        }
    }

    private String name() {
        return NAMES[random.nextInt(random.nextBoolean() ? 5 : NAMES.length)];
    }

    private String value(int depth) {
        int kind = random.nextInt(6);
        if (depth > 0 && kind < 2) {
            return kind == 0 ? document(depth - 1) : row(depth - 1);
        }
        if (random.nextInt(60) == 0) {
            return "'" + "z".repeat(random.nextInt(1000)) + "'";
        }
        return VALUES[random.nextInt(VALUES.length)];
    }

    private String document(int depth) {
        StringBuilder out = new StringBuilder("{");
        int first = random.nextInt(NAMES.length);
        int n = random.nextInt(5);
        boolean twice = random.nextInt(60) == 0;
        if (depth > 8) {
            return "{a:" + (random.nextBoolean() ? document(depth - 1) : row(depth - 1)) + "}";
        }
        for (int i = 0; i < n; i++) {
            out.append(i == 0 ? "'" : ",'").append(NAMES[twice ? first : (first + i) % NAMES.length]).append("':").append(value(depth));
        }
        return out.append("}").toString();
    }

    private String row(int depth) {
        StringBuilder out = new StringBuilder("[");
        int n = random.nextInt(4) == 0 ? random.nextInt(14) : random.nextInt(4);
        if (depth > 8) {
            return "[" + document(depth - 1) + "]";
        }
        for (int i = 0; i < n; i++) {
            out.append(i == 0 ? "" : ",").append(random.nextBoolean() ? VALUES[random.nextInt(VALUES.length)] : value(depth));
        }
        return out.append("]").toString();
    }

    private String path() {
        if (random.nextInt(80) == 0) {
            return new String[] {"", ".", "a.", ".a", "a..b", "a.b.c.d.e.f.g.h.i"}[random.nextInt(6)];
        }
        int steps = random.nextInt(10) == 0 ? 1 + random.nextInt(8) : 1 + random.nextInt(3);
        StringBuilder out = new StringBuilder(name());
        for (int i = 1; i < steps; i++) {
            out.append('.').append(name());
        }
        return out.toString();
    }

    private String argument(String operator) {
        if (operator.equals("$inc") && random.nextInt(12) > 0) {
            return VALUES[random.nextInt(11)];
        }
        return random.nextInt(3) > 0 ? VALUES[random.nextInt(VALUES.length)]
            : value(random.nextInt(10) == 0 ? 13 : 2);
    }

    private String change() {
        StringBuilder out = new StringBuilder("{");
        int first = random.nextInt(OPERATORS.length);
        int n = 1 + random.nextInt(3);
        for (int i = 0; i < n; i++) {
            String operator = random.nextInt(60) == 0 ? "$rename" + i : OPERATORS[(first + i) % OPERATORS.length];
            out.append(i == 0 ? "" : ",").append(operator).append(':');
            if (random.nextInt(60) == 0) {
                out.append(value(1));
                continue;
            }
            out.append('{');
            int paths = 1 + random.nextInt(2);
            for (int j = 0; j < paths; j++) {
                out.append(j == 0 ? "'" : ",'").append(path()).append("':").append(argument(operator));
            }
            out.append('}');
        }
        return out.append("}").toString();
    }
}
