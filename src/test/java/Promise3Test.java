import java.util.Arrays;

/** Promise 3: read. */
public final class Promise3Test {
    private static final String PLACE = "Promise 3";

    public static void main(String[] args) {
        elements();
        justSoManyBytes();
        tapeIsEmptyThen();
        slotStays();
        noSuchSlot();
        noSuchCount();
        nothingElseChanges();
        Check.end();
    }

    private static void elements() {
        Check.sentence(PLACE, "are read as a document of just n bytes into a slot: how many elements it has");
        Desk.isDocument("{}", 0);
        Desk.isDocument("{a:1}", 1);
        Desk.isDocument("{t:true,f:false,n:null}", 3);
        Desk.isDocument("{d:{},e:{a:1,d:{a:1}}}", 2);
        Desk.isDocument("{r:[],s:[1,'x',[null],{a:[]}]}", 2);
        Desk.isDocument(Docs.large("t", 2000), 1);
        Desk.isDocument(Docs.mostElements(), 530);
        for (int slot = 0; slot < 4; slot++) {
            Desk desk = new Desk();
            Check.due("slot " + slot, desk.read(slot, "{a:1,b:2}"), 2);
            for (int other = 0; other < 4; other++) {
                desk.holds("slot " + other, other, other == slot ? "{a:1,b:2}" : "{}");
            }
            Check.due("slot " + slot + " again", desk.read(slot, "{}"), 0);
            desk.holds("a shorter one", slot, "{}");
        }
    }

    private static void justSoManyBytes() {
        Check.sentence(PLACE, "The first n bytes of the tape (which is empty then) are read as a document of just n bytes");
        byte[] bytes = Docs.of("{a:1,d:{b:'x'}}");
        for (int n = 0; n <= 40; n++) {
            Desk desk = new Desk();
            desk.feed(Arrays.copyOf(bytes, 40));
            Check.due("n " + n, desk.read(0, n), n == bytes.length ? 2 : -1);
            desk.holds("n " + n, 0, n == bytes.length ? "{a:1,d:{b:'x'}}" : "{}");
        }
        Desk desk = new Desk();
        desk.feed(Docs.join(bytes, Docs.times("x", 100).getBytes()));
        Check.due("what is behind them is not read", desk.read(0, bytes.length), 2);
    }

    private static void tapeIsEmptyThen() {
        Check.sentence(PLACE, "The first n bytes of the tape (which is empty then)");
        byte[] bytes = Docs.of("{a:1}");
        for (int n : new int[] {0, 1, 5, 11, 12, 13, 20, 40, 60}) {
            Desk desk = new Desk();
            desk.feed(Docs.join(bytes, new byte[8], bytes, new byte[28]));
            Check.due("n " + n, desk.read(0, n), n == 12 ? 1 : -1);
            Check.due("nothing is left", desk.read(0, 1), -2);
            Check.due("nothing is left", desk.change(1), -2);
            Check.due("the next ones are the first", desk.feed(0x05000000, 0, 0, 0, 0), 20);
            Check.due("the next ones are the first", desk.read(0, 5), 0);
        }
    }

    private static void slotStays() {
        Check.sentence(PLACE, "-1 when they are none (the slot stays).");
        Desk desk = new Desk();
        desk.read(2, "{k:7,r:[1]}");
        for (byte[] none : new byte[][] {Docs.raw(5, 0, 0, 0, 1), Docs.raw(4, 0, 0, 0), new byte[20], Docs.of("{a:1,a:1}"),
            Docs.of(Docs.deep(17)), Docs.raw(6, 0, 0, 0, 0)}) {
            Check.due("none", desk.read(2, none), -1);
            desk.holds("the slot", 2, "{k:7,r:[1]}");
        }
        desk.feed(Docs.of("{a:1}"));
        Check.due("no bytes", desk.read(2, 0), -1);
        desk.holds("the slot", 2, "{k:7,r:[1]}");
        Check.due("still a slot", desk.read(2, "{a:1}"), 1);
        desk.holds("the slot", 2, "{a:1}");
    }

    private static void noSuchSlot() {
        Check.sentence(PLACE, "-2, doing nothing, when there is no such slot, or n is below 0 or more than there are.");
        for (int slot : new int[] {-1, 4, 5, 255, 256, -4, Integer.MIN_VALUE, Integer.MAX_VALUE}) {
            Desk desk = new Desk();
            Check.due("nothing on the tape", desk.read(slot, 0), -2);
            desk.feed(Docs.of("{a:1}"));
            Check.due("slot " + slot, desk.read(slot, 12), -2);
            Check.due("slot " + slot + ", no document", desk.read(slot, 11), -2);
            Check.due("slot " + slot + ", no bytes", desk.read(slot, 0), -2);
            Check.due("slot " + slot + ", no such n", desk.read(slot, 21), -2);
            Check.due("the tape stays", desk.feed(0, 0, 0, 0, 0), 40);
            for (int other = 0; other < 4; other++) {
                desk.holds("slot " + other, other, "{}");
            }
            Check.due("the tape stays", desk.read(3, 12), 1);
        }
    }

    private static void noSuchCount() {
        Check.sentence(PLACE, "-2, doing nothing, when there is no such slot, or n is below 0 or more than there are.");
        Desk desk = new Desk();
        desk.read(0, "{k:7}");
        for (int n : new int[] {1, 5, 20, -1, Integer.MIN_VALUE, Integer.MAX_VALUE}) {
            Check.due("nothing on the tape, n " + n, desk.read(0, n), -2);
        }
        desk.feed(Docs.of("{a:1}"));
        for (int n : new int[] {-1, -12, -20, Integer.MIN_VALUE, Integer.MIN_VALUE + 12, 21, 22, 40, 2000, 2001, 65548,
            Integer.MAX_VALUE}) {
            Check.due("n " + n, desk.read(0, n), -2);
        }
        desk.holds("the slot", 0, "{k:7}");
        Check.due("the tape stays", desk.feed(0, 0, 0, 0, 0), 40);
        Check.due("read", desk.read(0, 12), 1);
        desk.holds("the slot", 0, "{a:1}");
        byte[] twenty = Docs.of(Docs.large("t", 20));
        Check.due("as many as there are", desk.read(1, twenty), 1);
        Check.due("bytes", desk.bytes(1), twenty);
    }

    private static void nothingElseChanges() {
        Check.sentence(PLACE, "are read as a document of just n bytes into a slot");
        Desk desk = new Desk();
        desk.change("{$set:{b:1},$inc:{b:1}}");
        desk.change("{$set:{c:1}}");
        desk.read(0, "{a:1}");
        desk.read(0, Docs.raw(1));
        desk.read(4, "{}");
        desk.tells("the latest fault stays", 1, 0);
        Check.due("the change stays", desk.apply(0), 1);
        desk.holds("the change stays", 0, "{a:1,c:1}");
    }
}
