import java.io.ByteArrayOutputStream;
import java.math.BigInteger;
import java.nio.ByteBuffer;
import java.nio.ByteOrder;
import java.nio.charset.CharacterCodingException;
import java.nio.charset.StandardCharsets;
import java.util.ArrayList;
import java.util.Arrays;
import java.util.HashSet;
import java.util.List;
import java.util.Set;

/** UpdateDesk written another way, over trees of values; the random test compares the two. */
final class Model {
    private static final BigInteger LEAST = BigInteger.valueOf(Long.MIN_VALUE);
    private static final BigInteger MOST = BigInteger.valueOf(Long.MAX_VALUE);

    /** A value; names are texts of one character for each byte. */
    static final class Value {
        int kind;
        BigInteger number = BigInteger.ZERO;
        byte[] text = new byte[0];
        final List<String> names = new ArrayList<>();
        final List<Value> parts = new ArrayList<>();

        Value(int kind) {
            this.kind = kind;
        }
    }

    /** A document that is none, or a fault. */
    static final class Refused extends Exception {
        private static final long serialVersionUID = 1L;
        final int fault;

        Refused(int fault) {
            this.fault = fault;
        }
    }

    private byte[] tape = new byte[0];
    private final byte[][] slots = new byte[4][];
    private Value plan = null;
    private int operator = -1;
    private int path = -1;

    Model() {
        Arrays.fill(slots, new byte[] {5, 0, 0, 0, 0});
    }

    int feed(int a, int b, int c, int d, int e) {
        if (tape.length + 20 > 2000) {
            return -1;
        }
        ByteBuffer out = ByteBuffer.allocate(tape.length + 20);
        out.put(tape).putInt(a).putInt(b).putInt(c).putInt(d).putInt(e);
        tape = out.array();
        return tape.length;
    }

    int read(int slot, int n) {
        if (slot < 0 || slot > 3 || n < 0 || n > tape.length) {
            return -2;
        }
        byte[] bytes = Arrays.copyOf(tape, n);
        tape = new byte[0];
        try {
            int elements = parse(bytes).parts.size();
            slots[slot] = bytes;
            return elements;
        } catch (Refused e) {
            return -1;
        }
    }

    int change(int n) {
        if (n < 0 || n > tape.length) {
            return -2;
        }
        byte[] bytes = Arrays.copyOf(tape, n);
        tape = new byte[0];
        plan = null;
        try {
            Value value = parse(bytes);
            int paths = study(value);
            plan = value;
            return paths;
        } catch (Refused e) {
            return e.fault == 0 ? -1 : e.fault - 10;
        }
    }

    int apply(int slot) {
        if (slot < 0 || slot > 3) {
            return -1;
        }
        if (plan == null) {
            return -2;
        }
        int at = -1;
        int number = -1;
        try {
            Value root = parse(slots[slot]);
            int changed = 0;
            for (at = 0; at < plan.parts.size(); at++) {
                Value paths = plan.parts.get(at);
                for (number = 0; number < paths.parts.size(); number++) {
                    byte[] before = bytes(root);
                    doPath(root, plan.names.get(at), paths.names.get(number), paths.parts.get(number));
                    changed += Arrays.equals(before, bytes(root)) ? 0 : 1;
                }
            }
            at = -1;
            number = -1;
            if (bytes(root).length > 2000 || depth(root) > 16) {
                throw new Refused(9);
            }
            slots[slot] = bytes(root);
            return changed;
        } catch (Refused e) {
            operator = at;
            path = number;
            return e.fault - 20;
        }
    }

    int place(int what) {
        return what == 0 ? operator : what == 1 ? path : -1;
    }

    int many(int slot, int what) {
        if (slot < 0 || slot > 3) {
            return -1;
        }
        try {
            Value root = parse(slots[slot]);
            return what == 0 ? slots[slot].length : what == 1 ? root.parts.size() : what == 2 ? depth(root) : -1;
        } catch (Refused e) {
            throw new IllegalStateException("the model holds what is no document");
        }
    }

    byte[] bytes(int slot) {
        return slots[slot];
    }

    boolean copy(int r, int s) {
        if (r < 0 || r > 3 || s < 0 || s > 3) {
            return false;
        }
        slots[r] = slots[s];
        return true;
    }

    private static Value parse(byte[] bytes) throws Refused {
        if (bytes.length > 2000) {
            throw new Refused(0);
        }
        ByteBuffer in = ByteBuffer.wrap(bytes).order(ByteOrder.LITTLE_ENDIAN);
        Value value = holder(in, 3, 1);
        if (in.hasRemaining()) {
            throw new Refused(0);
        }
        return value;
    }

    private static Value holder(ByteBuffer in, int kind, int depth) throws Refused {
        need(depth <= 16 && in.remaining() >= 5);
        int start = in.position();
        int size = in.getInt();
        need(size >= 5 && size <= in.limit() - start);
        Value out = new Value(kind);
        Set<String> names = new HashSet<>();
        int end = start + size;
        for (int n = 0; in.position() < end - 1; n++) {
            int part = in.get();
            String name = name(in, end);
            need(kind == 3 ? names.add(name) : name.equals(Integer.toString(n)));
            out.names.add(name);
            out.parts.add(value(in, part, end - 1, depth));
        }
        need(in.position() == end - 1 && in.get() == 0);
        return out;
    }

    private static String name(ByteBuffer in, int end) throws Refused {
        ByteArrayOutputStream out = new ByteArrayOutputStream();
        while (true) {
            need(in.position() < end - 1);
            int b = in.get();
            if (b == 0) {
                break;
            }
            out.write(b);
        }
        utf8(out.toByteArray());
        return out.toString(StandardCharsets.ISO_8859_1);
    }

    private static Value value(ByteBuffer in, int kind, int limit, int depth) throws Refused {
        int left = limit - in.position();
        Value out = new Value(kind);
        switch (kind) {
            case 16 -> {
                need(left >= 4);
                out.number = BigInteger.valueOf(in.getInt());
            }
            case 18 -> {
                need(left >= 8);
                out.number = BigInteger.valueOf(in.getLong());
            }
            case 8 -> {
                need(left >= 1);
                out.number = BigInteger.valueOf(in.get());
                need(out.number.equals(BigInteger.ZERO) || out.number.equals(BigInteger.ONE));
            }
            case 10 -> {
            }
            case 2 -> {
                need(left >= 5);
                int n = in.getInt();
                need(n >= 1 && n <= left - 4);
                out.text = new byte[n - 1];
                in.get(out.text);
                need(in.get() == 0);
                utf8(out.text);
            }
            case 3, 4 -> {
                ByteBuffer inner = in.duplicate().order(ByteOrder.LITTLE_ENDIAN);
                inner.limit(limit);
                out = holder(inner, kind, depth + 1);
                in.position(inner.position());
            }
            default -> throw new Refused(0);
        }
        return out;
    }

    private static void utf8(byte[] bytes) throws Refused {
        try {
            StandardCharsets.UTF_8.newDecoder().decode(ByteBuffer.wrap(bytes));
        } catch (CharacterCodingException e) {
            throw new Refused(0);
        }
    }

    private static void need(boolean right) throws Refused {
        if (!right) {
            throw new Refused(0);
        }
    }

    private static byte[] bytes(Value value) {
        ByteArrayOutputStream out = new ByteArrayOutputStream();
        switch (value.kind) {
            case 16 -> little(out, value.number.longValue(), 4);
            case 18 -> little(out, value.number.longValue(), 8);
            case 8 -> little(out, value.number.longValue(), 1);
            case 2 -> {
                little(out, value.text.length + 1, 4);
                out.writeBytes(value.text);
                out.write(0);
            }
            case 3, 4 -> {
                for (int i = 0; i < value.parts.size(); i++) {
                    out.write(value.parts.get(i).kind);
                    String name = value.kind == 3 ? value.names.get(i) : Integer.toString(i);
                    out.writeBytes(name.getBytes(StandardCharsets.ISO_8859_1));
                    out.write(0);
                    out.writeBytes(bytes(value.parts.get(i)));
                }
                return Docs.around(out.toByteArray());
            }
            default -> {
            }
        }
        return out.toByteArray();
    }

    private static void little(ByteArrayOutputStream out, long value, int bytes) {
        for (int i = 0; i < bytes; i++) {
            out.write((int) (value >> 8 * i));
        }
    }

    private static int depth(Value value) {
        if (value.kind != 3 && value.kind != 4) {
            return 0;
        }
        int most = 0;
        for (Value part : value.parts) {
            most = Math.max(most, depth(part));
        }
        return most + 1;
    }

    private int study(Value root) throws Refused {
        List<List<String>> ahead = new ArrayList<>();
        for (int i = 0; i < root.parts.size(); i++) {
            String name = root.names.get(i);
            if (!Set.of("$set", "$unset", "$inc", "$push", "$pull", "$addToSet").contains(name)) {
                throw fault(1, i, -1);
            }
            Value paths = root.parts.get(i);
            if (paths.kind != 3) {
                throw fault(2, i, -1);
            }
            for (int j = 0; j < paths.parts.size(); j++) {
                List<String> steps = steps(paths.names.get(j));
                if (steps.size() > 8 || steps.contains("")) {
                    throw fault(3, i, j);
                }
                if (name.equals("$inc") && !number(paths.parts.get(j))) {
                    throw fault(4, i, j);
                }
                for (List<String> other : ahead) {
                    int n = Math.min(other.size(), steps.size());
                    if (other.subList(0, n).equals(steps.subList(0, n))) {
                        throw fault(5, i, j);
                    }
                }
                ahead.add(steps);
            }
        }
        return ahead.size();
    }

    private Refused fault(int fault, int i, int j) {
        operator = i;
        path = j;
        return new Refused(fault);
    }

    private static List<String> steps(String path) {
        return Arrays.asList(path.split("\\.", -1));
    }

    private static boolean number(Value value) {
        return value.kind == 16 || value.kind == 18;
    }

    private static void doPath(Value root, String operator, String path, Value argument) throws Refused {
        List<String> steps = steps(path);
        boolean making = !operator.equals("$unset") && !operator.equals("$pull");
        Value at = root;
        int index = -1;
        for (int s = 0; s < steps.size(); s++) {
            index = index(at, steps.get(s));
            if (index < 0) {
                if (making) {
                    throw new Refused(6);
                }
                return;
            }
            boolean free = index == at.parts.size();
            if (free && !making) {
                return;
            }
            if (s == steps.size() - 1) {
                break;
            }
            if (free) {
                at.names.add(steps.get(s));
                at.parts.add(new Value(3));
            }
            at = at.parts.get(index);
        }
        doOperator(at, index, steps.get(steps.size() - 1), operator, argument);
    }

    /** The part that a step meets; how many there are when one could come; -1 when none could. */
    private static int index(Value at, String step) {
        if (at.kind == 3) {
            int index = at.names.indexOf(step);
            return index < 0 ? at.parts.size() : index;
        }
        if (at.kind != 4 || !step.matches("0|[1-9][0-9]*")) {
            return -1;
        }
        BigInteger number = new BigInteger(step);
        return number.compareTo(BigInteger.valueOf(at.parts.size())) > 0 ? -1 : number.intValue();
    }

    private static void doOperator(Value at, int index, String step, String operator, Value argument) throws Refused {
        boolean free = index == at.parts.size();
        Value old = free ? null : at.parts.get(index);
        switch (operator) {
            case "$set" -> put(at, index, step, argument);
            case "$unset" -> {
                if (at.kind == 4) {
                    at.parts.set(index, new Value(10));
                } else {
                    at.parts.remove(index);
                    at.names.remove(index);
                }
            }
            case "$inc" -> put(at, index, step, free ? argument : sum(old, argument));
            case "$pull" -> {
                if (old == null || old.kind != 4) {
                    throw new Refused(7);
                }
                old.parts.removeIf(item -> same(item, argument));
                while (old.names.size() > old.parts.size()) {
                    old.names.remove(old.names.size() - 1);
                }
            }
            default -> {
                Value row = free ? new Value(4) : old;
                if (row.kind != 4) {
                    throw new Refused(7);
                }
                boolean known = operator.equals("$addToSet")
                    && row.parts.stream().anyMatch(item -> same(item, argument));
                if (!known) {
                    put(row, row.parts.size(), Integer.toString(row.parts.size()), argument);
                }
                put(at, index, step, row);
            }
        }
    }

    private static void put(Value at, int index, String step, Value value) {
        Value own = deepCopy(value);
        if (index == at.parts.size()) {
            at.names.add(step);
            at.parts.add(own);
        } else {
            at.parts.set(index, own);
        }
    }

    private static Value deepCopy(Value value) {
        Value out = new Value(value.kind);
        out.number = value.number;
        out.text = value.text;
        out.names.addAll(value.names);
        value.parts.forEach(part -> out.parts.add(deepCopy(part)));
        return out;
    }

    private static Value sum(Value old, Value argument) throws Refused {
        if (!number(old)) {
            throw new Refused(7);
        }
        BigInteger total = old.number.add(argument.number);
        if (total.compareTo(LEAST) < 0 || total.compareTo(MOST) > 0) {
            throw new Refused(8);
        }
        boolean small = old.kind == 16 && argument.kind == 16 && total.bitLength() <= 31;
        Value out = new Value(small ? 16 : 18);
        out.number = total;
        return out;
    }

    private static boolean same(Value a, Value b) {
        if (number(a) && number(b)) {
            return a.number.equals(b.number);
        }
        if (a.kind != b.kind || a.parts.size() != b.parts.size()) {
            return false;
        }
        for (int i = 0; i < a.parts.size(); i++) {
            if (a.kind == 3 && !a.names.get(i).equals(b.names.get(i)) || !same(a.parts.get(i), b.parts.get(i))) {
                return false;
            }
        }
        return a.number.equals(b.number) && Arrays.equals(a.text, b.text);
    }
}
