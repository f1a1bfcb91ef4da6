/** Promise 8: byteAt. */
public final class Promise8Test {
    private static final String PLACE = "Promise 8";

    public static void main(String[] args) {
        withoutSign();
        everyByte();
        noSuchByte();
        noSuchSlot();
        shorterDocuments();
        Check.end();
    }

    private static void withoutSign() {
        Check.sentence(PLACE, "Byte i of the document of a slot, without sign");
        for (int slot = 0; slot < 4; slot++) {
            Desk desk = new Desk();
            byte[] bytes = Docs.of("{n:-1,m:-2L,o:-128,p:127,q:128,t:'\u00e9\u20ac'}");
            desk.read(slot, bytes);
            for (int i = 0; i < bytes.length; i++) {
                Check.due("byte " + i, desk.byteAt(slot, i), bytes[i] & 255);
            }
            Check.due("another slot", desk.byteAt((slot + 1) % 4, 0), 5);
        }
        for (int value = 0; value < 256; value++) {
            Desk desk = new Desk();
            desk.read(0, "{a:" + value + "}");
            Check.due("byte of " + value, desk.byteAt(0, 7), value);
        }
    }

    private static void everyByte() {
        Check.sentence(PLACE, "Byte i of the document of a slot");
        byte[] bytes = Docs.of(Docs.mostElements());
        Desk desk = new Desk();
        desk.read(1, bytes);
        Check.due("all bytes", desk.bytes(1), bytes);
        Check.due("the last byte", desk.byteAt(1, bytes.length - 1), 0);
        Check.due("the last name's byte", desk.byteAt(1, bytes.length - 3), 'k');
    }

    private static void noSuchByte() {
        Check.sentence(PLACE, "-1 when there is none.");
        for (String text : new String[] {"{}", "{a:1}", "{a:-1}", Docs.large("t", 1999), Docs.large("t", 2000)}) {
            Desk desk = new Desk();
            desk.read(2, text);
            int size = Docs.of(text).length;
            Check.due("the last byte", desk.byteAt(2, size - 1), 0);
            Check.due("the first byte", desk.byteAt(2, 0), size & 255);
            for (int i : new int[] {-1, -2, -size, size, size + 1, 2000, 2001, 10_000, Integer.MIN_VALUE, Integer.MAX_VALUE}) {
                Check.due("no byte " + i, desk.byteAt(2, i), -1);
            }
        }
    }

    private static void noSuchSlot() {
        Check.sentence(PLACE, "-1 when there is none.");
        Desk desk = new Desk();
        for (int slot : new int[] {-1, 4, 5, -4, 256, Integer.MIN_VALUE, Integer.MAX_VALUE}) {
            for (int i : new int[] {0, 4, 5, -1}) {
                Check.due("slot " + slot, desk.byteAt(slot, i), -1);
            }
        }
    }

    private static void shorterDocuments() {
        Check.sentence(PLACE, "-1 when there is none.");
        Desk desk = new Desk();
        desk.read(1, "{a:1,b:2,c:3}");
        Check.due("byte 12", desk.byteAt(1, 12), 'b');
        desk.change("{$unset:{a:1}}");
        desk.apply(1);
        Check.due("byte 19 behind a change", desk.byteAt(1, 19), -1);
        Check.due("byte 18 behind a change", desk.byteAt(1, 18), 0);
        desk.read(1, "{a:1}");
        Check.due("byte 12 behind read", desk.byteAt(1, 12), -1);
        Check.due("byte 11 behind read", desk.byteAt(1, 11), 0);
        desk.copy(1, 0);
        Check.due("byte 5 behind copy", desk.byteAt(1, 5), -1);
        Check.due("byte 4 behind copy", desk.byteAt(1, 4), 0);
    }
}
