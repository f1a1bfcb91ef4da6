/** Promise 1: a new object. */
public final class Promise1Test {
    private static final String PLACE = "Promise 1";

    public static void main(String[] args) {
        documentsWithoutElements();
        noChange();
        nothingOnTheTape();
        objectsOfTheirOwn();
        Check.end();
    }

    private static void documentsWithoutElements() {
        Check.sentence(PLACE, "Slots with documents without elements");
        Desk desk = new Desk();
        for (int slot = 0; slot < 4; slot++) {
            Check.due("bytes of slot " + slot, desk.many(slot, 0), 5);
            Check.due("elements of slot " + slot, desk.many(slot, 1), 0);
            Check.due("depth of slot " + slot, desk.many(slot, 2), 1);
            for (int i = 0; i < 5; i++) {
                Check.due("byte " + i + " of slot " + slot, desk.byteAt(slot, i), i == 0 ? 5 : 0);
            }
            Check.due("no byte 5", desk.byteAt(slot, 5), -1);
        }
        Check.sentence("Terms", "There are SLOTS 0 to 3 for documents, at first each the one without elements.");
        for (int slot : new int[] {Integer.MIN_VALUE, -1, 4, 5, Integer.MAX_VALUE}) {
            Check.due("no slot " + slot, desk.many(slot, 0), -1);
        }
        for (int slot = 0; slot < 4; slot++) {
            desk.read(slot, "{s:" + slot + "}");
        }
        for (int slot = 0; slot < 4; slot++) {
            desk.holds("slot " + slot, slot, "{s:" + slot + "}");
        }
    }

    private static void noChange() {
        Check.sentence(PLACE, "no change");
        Desk desk = new Desk();
        for (int slot = 0; slot < 4; slot++) {
            Check.due("no change for slot " + slot, desk.apply(slot), -2);
        }
        desk.tells("no fault", -1, -1);
    }

    private static void nothingOnTheTape() {
        Check.sentence(PLACE, "nothing on the tape.");
        Check.due("nothing to read", new Desk().read(0, 1), -2);
        Check.due("nothing to read", new Desk().read(0, 5), -2);
        Check.due("nothing to change by", new Desk().change(1), -2);
        Check.due("nothing to change by", new Desk().change(5), -2);
        Check.due("no bytes are no document", new Desk().read(0, 0), -1);
        Check.due("no bytes are no change", new Desk().change(0), -1);
        Check.due("the first feed", new Desk().feed(0, 0, 0, 0, 0), 20);
    }

    private static void objectsOfTheirOwn() {
        Check.sentence(PLACE, "Slots with documents without elements, no change; nothing on the tape.");
        Desk first = new Desk();
        first.read(0, "{a:1}");
        first.change("{$set:{b:1}}");
        first.change("{$set:1}");
        first.change("{$set:{b:1}}");
        first.apply(1);
        first.feed(1, 2, 3, 4, 5);
        Desk second = new Desk();
        Check.due("slot 0", second.many(0, 0), 5);
        Check.due("slot 1", second.many(1, 0), 5);
        Check.due("no change", second.apply(0), -2);
        second.tells("no fault", -1, -1);
        Check.due("an empty tape", second.read(0, 1), -2);
        second.change("{$set:{c:1}}");
        second.apply(2);
        first.apply(2);
        first.holds("the first one's slot 2", 2, "{b:1}");
        second.holds("the second one's slot 2", 2, "{c:1}");
        Check.due("the first one's tape", first.feed(0, 0, 0, 0, 0), 40);
    }
}
