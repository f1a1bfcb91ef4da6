/** Promise 9: copy. */
public final class Promise9Test {
    private static final String PLACE = "Promise 9";

    public static void main(String[] args) {
        everyPair();
        theSameOne();
        documentsOfTheirOwn();
        largest();
        noSuchSlots();
        nothingElseChanges();
        Check.end();
    }

    private static String text(int slot) {
        return "{s:" + slot + ",t:'" + Docs.times("x", 10 * slot) + "'}";
    }

    private static Desk filled() {
        Desk desk = new Desk();
        for (int slot = 0; slot < 4; slot++) {
            desk.read(slot, text(slot));
        }
        return desk;
    }

    private static void everyPair() {
        Check.sentence(PLACE, "Slot r gets the document of slot s (perhaps the same one): true");
        for (int r = 0; r < 4; r++) {
            for (int s = 0; s < 4; s++) {
                Desk desk = filled();
                Check.due("copy " + r + " " + s, desk.copy(r, s), true);
                for (int slot = 0; slot < 4; slot++) {
                    desk.holds("slot " + slot + " behind copy " + r + " " + s, slot, text(slot == r ? s : slot));
                }
            }
        }
    }

    private static void theSameOne() {
        Check.sentence(PLACE, "(perhaps the same one): true");
        Desk desk = new Desk();
        for (int slot = 0; slot < 4; slot++) {
            Check.due("a new object's", desk.copy(slot, slot), true);
            desk.holds("a new object's", slot, "{}");
        }
        desk.read(0, "{a:1,r:[1,2]}");
        Check.due("copy", desk.copy(0, 0), true);
        desk.holds("slot 0", 0, "{a:1,r:[1,2]}");
    }

    private static void documentsOfTheirOwn() {
        Check.sentence(PLACE, "Slot r gets the document of slot s");
        Desk desk = new Desk();
        desk.read(0, "{a:1,r:[1,2]}");
        desk.copy(1, 0);
        desk.change("{$push:{r:3}}");
        desk.apply(1);
        desk.holds("slot 1", 1, "{a:1,r:[1,2,3]}");
        desk.holds("slot 0", 0, "{a:1,r:[1,2]}");
        desk.change("{$set:{a:2}}");
        desk.apply(0);
        desk.holds("slot 1", 1, "{a:1,r:[1,2,3]}");
        desk.holds("slot 0", 0, "{a:2,r:[1,2]}");
        desk.read(0, "{}");
        desk.holds("slot 1", 1, "{a:1,r:[1,2,3]}");
    }

    private static void largest() {
        Check.sentence(PLACE, "Slot r gets the document of slot s");
        Desk desk = new Desk();
        desk.read(3, Docs.large("t", 2000));
        Check.due("copy", desk.copy(0, 3), true);
        desk.holds("slot 0", 0, Docs.large("t", 2000));
        Check.due("a short one over it", desk.copy(0, 1), true);
        desk.holds("slot 0", 0, "{}");
    }

    private static void noSuchSlots() {
        Check.sentence(PLACE, "false when there are no such slots.");
        Desk desk = filled();
        for (int slot : new int[] {-1, 4, 5, -4, 256, Integer.MIN_VALUE, Integer.MAX_VALUE}) {
            for (int other = 0; other < 4; other++) {
                Check.due("no slot r " + slot, desk.copy(slot, other), false);
                Check.due("no slot s " + slot, desk.copy(other, slot), false);
            }
            Check.due("neither", desk.copy(slot, slot), false);
        }
        for (int slot = 0; slot < 4; slot++) {
            desk.holds("slot " + slot, slot, text(slot));
        }
    }

    private static void nothingElseChanges() {
        Check.sentence(PLACE, "Slot r gets the document of slot s");
        Desk desk = new Desk();
        desk.read(0, "{a:1}");
        desk.change("{$set:{b:1}}");
        desk.feed(1, 2, 3, 4, 5);
        desk.copy(1, 0);
        Check.due("the tape stays", desk.feed(1, 2, 3, 4, 5), 40);
        Check.due("the change stays", desk.apply(1), 1);
        desk.holds("slot 1", 1, "{a:1,b:1}");
        desk.tells("no fault", -1, -1);
    }
}
