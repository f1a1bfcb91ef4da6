/** Promise 8: byteAt. */
public final class Promise8Test {
    public static void main(String[] args) {
        Desk desk = new Desk();
        byte[] bytes = Docs.of("{n:-1,m:-2L,t:'\u00e9\u20ac'}");
        desk.read(1, bytes);
        for (int i = 0; i < bytes.length; i++) {
            Check.due("byte " + i, desk.x.byteAt(1, i), bytes[i] & 255);
        }
        for (int i : new int[] {-1, bytes.length, bytes.length + 1, 1999, 2000, 2001,
            Integer.MIN_VALUE, Integer.MAX_VALUE}) {
            Check.due("no byte " + i, desk.x.byteAt(1, i), -1);
        }
        for (int slot : new int[] {-1, 4, Integer.MIN_VALUE, Integer.MAX_VALUE}) {
            Check.due("no slot " + slot, desk.x.byteAt(slot, 0), -1);
        }
        Check.due("another slot", desk.x.byteAt(0, 0), 5);
        desk.read(1, "{}");
        Check.due("a shorter document has fewer", desk.x.byteAt(1, 5), -1);
        Check.due("its last byte", desk.x.byteAt(1, 4), 0);
        Check.end();
    }
}
