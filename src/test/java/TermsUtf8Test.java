import java.io.ByteArrayOutputStream;
import java.nio.ByteBuffer;
import java.nio.charset.CharacterCodingException;
import java.nio.charset.StandardCharsets;

/** Terms: right UTF-8, in texts and in names. */
public final class TermsUtf8Test {
    private static final String SENTENCE = "characters up to 1114111 but 55296 to 57343, each in its shortest form.";

    public static void main(String[] args) {
        Check.sentence("Terms, Right UTF-8", SENTENCE);
        edges();
        otherForms();
        partsOfCharacters();
        twoBytes();
        threeBytes();
        fourBytes();
        everyCharacter();
        Check.end();
    }

    private static void due(String what, boolean right, int... bytes) {
        byte[] raw = Docs.raw(bytes);
        byte[] text = Docs.join(Docs.raw(2, 'a', 0), Docs.four(raw.length + 1), raw, Docs.raw(0));
        byte[] name = Docs.join(Docs.raw(10), raw, Docs.raw(0));
        String shown = what + " " + java.util.Arrays.toString(bytes);
        read("text " + shown, right, Docs.around(text));
        read("name " + shown, right, Docs.around(name));
        read("inner text " + shown, right, Docs.around(Docs.join(Docs.raw(4, 'r', 0),
            Docs.around(Docs.join(Docs.raw(3, '0', 0), Docs.around(text))))));
    }

    private static void read(String what, boolean right, byte[] bytes) {
        Desk desk = new Desk();
        Check.due(what, desk.read(0, bytes), right ? 1 : -1);
    }

    private static void edges() {
        due("1", true, 1);
        due("127", true, 0x7F);
        due("128", true, 0xC2, 0x80);
        due("2047", true, 0xDF, 0xBF);
        due("2048", true, 0xE0, 0xA0, 0x80);
        due("55295", true, 0xED, 0x9F, 0xBF);
        due("55296", false, 0xED, 0xA0, 0x80);
        due("56320", false, 0xED, 0xB0, 0x80);
        due("57343", false, 0xED, 0xBF, 0xBF);
        due("57344", true, 0xEE, 0x80, 0x80);
        due("65533", true, 0xEF, 0xBF, 0xBD);
        due("65534", true, 0xEF, 0xBF, 0xBE);
        due("65535", true, 0xEF, 0xBF, 0xBF);
        due("65536", true, 0xF0, 0x90, 0x80, 0x80);
        due("1114111", true, 0xF4, 0x8F, 0xBF, 0xBF);
        due("1114112", false, 0xF4, 0x90, 0x80, 0x80);
        due("1310720", false, 0xF5, 0x80, 0x80, 0x80);
        due("2097151", false, 0xF7, 0xBF, 0xBF, 0xBF);
        due("several", true, 0x61, 0xC3, 0xA9, 0xE2, 0x82, 0xAC, 0xF0, 0x9F, 0x98, 0x80, 0x62);
        due("the last one is wrong", false, 0x61, 0xC3, 0xA9, 0xE2, 0x82, 0xAC, 0xED, 0xA0, 0x80);
        due("the first one is wrong", false, 0xC0, 0x80, 0x61, 0xC3, 0xA9);
        due("a pair of halves", false, 0xED, 0xA0, 0xBD, 0xED, 0xB8, 0x80);
    }

    private static void otherForms() {
        due("0 in two bytes", false, 0xC0, 0x80);
        due("127 in two bytes", false, 0xC1, 0xBF);
        due("0 in three bytes", false, 0xE0, 0x80, 0x80);
        due("2047 in three bytes", false, 0xE0, 0x9F, 0xBF);
        due("0 in four bytes", false, 0xF0, 0x80, 0x80, 0x80);
        due("65535 in four bytes", false, 0xF0, 0x8F, 0xBF, 0xBF);
        due("65536 in five bytes", false, 0xF8, 0x80, 0x90, 0x80, 0x80);
        due("a five byte form", false, 0xF8, 0x88, 0x80, 0x80, 0x80);
        due("a six byte form", false, 0xFC, 0x84, 0x80, 0x80, 0x80, 0x80);
    }

    private static void partsOfCharacters() {
        for (int lead = 0x80; lead <= 0xFF; lead++) {
            due("alone", false, lead);
            due("ahead of a letter", false, lead, 'a');
            due("ahead of letters", false, lead, 'a', 'b', 'c');
        }
        due("a last byte is missing", false, 0xC3);
        due("a last byte of three is missing", false, 0xE2, 0x82);
        due("two of three are missing", false, 0xE2);
        due("a last byte of four is missing", false, 0xF0, 0x9F, 0x98);
        due("another character comes too early", false, 0xE2, 0x82, 0xC3, 0xA9);
        due("a byte too many", false, 0xC3, 0xA9, 0xA9);
        due("a byte too many", false, 0xE2, 0x82, 0xAC, 0x80);
    }

    private static void twoBytes() {
        for (int lead = 0xC0; lead <= 0xFF; lead++) {
            for (int next = 1; next <= 0xFF; next++) {
                grid(lead, next);
            }
        }
    }

    private static void threeBytes() {
        for (int lead = 0xE0; lead <= 0xF0; lead++) {
            for (int next = 0x7F; next <= 0xC0; next++) {
                for (int last : new int[] {0x41, 0x7F, 0x80, 0xBF, 0xC0, 0xFF}) {
                    grid(lead, next, last);
                }
            }
        }
    }

    private static void fourBytes() {
        for (int lead = 0xEF; lead <= 0xF8; lead++) {
            for (int next = 0x7F; next <= 0xC0; next++) {
                for (int third : new int[] {0x7F, 0x80, 0xBF, 0xC0}) {
                    for (int last : new int[] {0x7F, 0x80, 0xBF, 0xC0}) {
                        grid(lead, next, third, last);
                    }
                }
            }
        }
    }

    /** Right is what Java's own decoder takes without replacing anything. */
    private static void grid(int... bytes) {
        byte[] raw = Docs.raw(bytes);
        byte[] text = Docs.join(Docs.raw(2, 'a', 0), Docs.four(raw.length + 1), raw, Docs.raw(0));
        byte[] name = Docs.join(Docs.raw(10), raw, Docs.raw(0));
        boolean right = decodes(raw);
        read("text " + java.util.Arrays.toString(bytes), right, Docs.around(text));
        read("name " + java.util.Arrays.toString(bytes), right, Docs.around(name));
    }

    private static boolean decodes(byte[] bytes) {
        try {
            StandardCharsets.UTF_8.newDecoder().decode(ByteBuffer.wrap(bytes));
            return true;
        } catch (CharacterCodingException e) {
            return false;
        }
    }

    /** As many characters in one text as it holds. */
    private static void everyCharacter() {
        ByteArrayOutputStream text = new ByteArrayOutputStream();
        for (int code = 0; code <= 1114111; code++) {
            if (code >= 55296 && code <= 57343) {
                continue;
            }
            text.writeBytes(new String(Character.toChars(code)).getBytes(StandardCharsets.UTF_8));
            if (text.size() > 1980 || code == 1114111) {
                read("characters up to " + code, true, Docs.around(Docs.join(Docs.raw(2, 'a', 0),
                    Docs.four(text.size() + 1), text.toByteArray(), Docs.raw(0))));
                text.reset();
            }
        }
    }
}
