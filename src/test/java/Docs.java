import java.io.ByteArrayOutputStream;
import java.nio.charset.StandardCharsets;

/**
 * Makes a document's bytes of a notation: {a:1, b:2L, 'a.b':'text', c:true, d:null, e:{}, f:[1,2]}.
 * A number with L has 64 bits. It looks at no rule of the document, so wrong documents can be made, too.
 */
final class Docs {
    private final String text;
    private int at = 0;

    private Docs(String text) {
        this.text = text;
    }

    static byte[] of(String text) {
        Docs docs = new Docs(text);
        docs.blanks();
        ByteArrayOutputStream out = new ByteArrayOutputStream();
        docs.holder(out);
        docs.blanks();
        if (docs.at != text.length()) {
            throw new IllegalArgumentException("left over: " + text.substring(docs.at));
        }
        return out.toByteArray();
    }

    /** Bytes of numbers 0 to 255. */
    static byte[] raw(int... numbers) {
        byte[] out = new byte[numbers.length];
        for (int i = 0; i < numbers.length; i++) {
            out[i] = (byte) numbers[i];
        }
        return out;
    }

    /** A document around the bytes of its elements. */
    static byte[] around(byte[] elements) {
        ByteArrayOutputStream out = new ByteArrayOutputStream();
        number(out, elements.length + 5, 4);
        out.writeBytes(elements);
        out.write(0);
        return out.toByteArray();
    }

    static byte[] join(byte[]... parts) {
        ByteArrayOutputStream out = new ByteArrayOutputStream();
        for (byte[] part : parts) {
            out.writeBytes(part);
        }
        return out.toByteArray();
    }

    /** A number of 32 bits, its lowest byte first. */
    static byte[] four(int value) {
        ByteArrayOutputStream out = new ByteArrayOutputStream();
        number(out, value, 4);
        return out.toByteArray();
    }

    static String times(String text, int n) {
        return text.repeat(n);
    }

    /** A document that is so many deep. */
    static String deep(int depth) {
        return times("{a:", depth - 1) + "{}" + times("}", depth - 1);
    }

    /** A row that is so many deep. */
    static String deepRow(int depth) {
        return times("[", depth) + times("]", depth);
    }

    /** A document of so many bytes, 13 or more, whose one element is a text. */
    static String large(String name, int bytes) {
        return "{" + textOf(name, bytes - 5) + "}";
    }

    /** An element of so many bytes that is a text. */
    static String textOf(String name, int bytes) {
        return name + ":'" + times("x", bytes - 7 - name.length()) + "'";
    }

    /** 530 elements in 1,997 bytes: names of 0, 1 and 2 bytes, the last ones from pA to vk. */
    static String mostElements() {
        StringBuilder out = new StringBuilder("{'':null");
        for (int i = 0; i < 126; i++) {
            out.append(",'").append((char) (i < '\'' - 1 ? i + 1 : i + 2)).append("':null");
        }
        for (int i = 0; i < 403; i++) {
            out.append(",'").append((char) ('p' + i / 60)).append((char) ('A' + i % 60)).append("':null");
        }
        return out.append("}").toString();
    }

    /** A row of the same item, so many times. */
    static String row(String item, int n) {
        return "[" + times(item + ",", n) + "]";
    }

    private static void number(ByteArrayOutputStream out, long value, int bytes) {
        for (int i = 0; i < bytes; i++) {
            out.write((int) (value >> 8 * i));
        }
    }

    private void holder(ByteArrayOutputStream out) {
        boolean row = take() == '[';
        ByteArrayOutputStream inner = new ByteArrayOutputStream();
        blanks();
        for (int n = 0; text.charAt(at) != (row ? ']' : '}'); n++) {
            String name = row ? String.valueOf(n) : name();
            element(inner, name);
            blanks();
            if (text.charAt(at) == ',') {
                at++;
                blanks();
            }
        }
        at++;
        out.writeBytes(around(inner.toByteArray()));
    }

    private String name() {
        blanks();
        String name;
        if (text.charAt(at) == '\'') {
            name = quoted();
        } else {
            int from = at;
            while (text.charAt(at) != ':') {
                at++;
            }
            name = text.substring(from, at).trim();
        }
        blanks();
        if (take() != ':') {
            throw new IllegalArgumentException("no colon ahead of " + at + ": " + text);
        }
        return name;
    }

    private void element(ByteArrayOutputStream out, String name) {
        blanks();
        ByteArrayOutputStream value = new ByteArrayOutputStream();
        int kind = value(value);
        out.write(kind);
        out.writeBytes(name.getBytes(StandardCharsets.UTF_8));
        out.write(0);
        out.writeBytes(value.toByteArray());
    }

    private int value(ByteArrayOutputStream out) {
        char c = text.charAt(at);
        if (c == '{' || c == '[') {
            holder(out);
            return c == '{' ? 3 : 4;
        }
        if (c == '\'') {
            byte[] bytes = quoted().getBytes(StandardCharsets.UTF_8);
            number(out, bytes.length + 1, 4);
            out.writeBytes(bytes);
            out.write(0);
            return 2;
        }
        int from = at;
        while (",}] ".indexOf(text.charAt(at)) < 0) {
            at++;
        }
        return word(out, text.substring(from, at));
    }

    private static int word(ByteArrayOutputStream out, String word) {
        if (word.equals("null")) {
            return 10;
        }
        if (word.equals("true") || word.equals("false")) {
            out.write(word.equals("true") ? 1 : 0);
            return 8;
        }
        if (word.endsWith("L")) {
            number(out, Long.parseLong(word.substring(0, word.length() - 1)), 8);
            return 18;
        }
        number(out, Integer.parseInt(word), 4);
        return 16;
    }

    private String quoted() {
        int end = text.indexOf('\'', at + 1);
        String inner = text.substring(at + 1, end);
        at = end + 1;
        return inner;
    }

    private char take() {
        return text.charAt(at++);
    }

    private void blanks() {
        while (at < text.length() && text.charAt(at) == ' ') {
            at++;
        }
    }
}
