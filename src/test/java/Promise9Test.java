/** Promise 9: copy. */
public final class Promise9Test {
    public static void main(String[] args) {
        Desk desk = new Desk();
        desk.read(0, "{a:1,r:[1,2]}");
        desk.read(1, "{t:'a longer text than the other document has'}");
        Check.due("copy(1, 0)", desk.x.copy(1, 0), true);
        desk.holds("slot 1", 1, "{a:1,r:[1,2]}");
        desk.holds("slot 0", 0, "{a:1,r:[1,2]}");
        Check.due("the same one", desk.x.copy(0, 0), true);
        desk.holds("slot 0", 0, "{a:1,r:[1,2]}");
        desk.change("{$push:{r:3}}");
        desk.x.apply(1);
        desk.holds("slot 1", 1, "{a:1,r:[1,2,3]}");
        desk.holds("slot 0 is one of its own", 0, "{a:1,r:[1,2]}");
        Check.due("copy(0, 3)", desk.x.copy(0, 3), true);
        desk.holds("slot 0", 0, "{}");
        for (int slot : new int[] {-1, 4, Integer.MIN_VALUE, Integer.MAX_VALUE}) {
            Check.due("no slot r", desk.x.copy(slot, 1), false);
            Check.due("no slot s", desk.x.copy(1, slot), false);
            Check.due("neither", desk.x.copy(slot, slot), false);
        }
        desk.holds("slot 1 stays", 1, "{a:1,r:[1,2,3]}");
        Check.end();
    }
}
