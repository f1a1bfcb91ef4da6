/** Promise 7: many. */
public final class Promise7Test {
    private static final String PLACE = "Promise 7";

    public static void main(String[] args) {
        bytes();
        elements();
        depth();
        others();
        noSuchSlot();
        behindChanges();
        Check.end();
    }

    /** In each slot, the others having other documents. */
    private static void due(String text, int what, int answer) {
        for (int slot = 0; slot < 4; slot++) {
            Desk desk = new Desk();
            desk.read(slot, text);
            Check.due(text, desk.many(slot, what), answer);
            Check.due("another slot", desk.many((slot + 1) % 4, what), what == 0 ? 5 : what == 1 ? 0 : 1);
        }
    }

    private static void bytes() {
        Check.sentence(PLACE, "0 how many bytes");
        due("{}", 0, 5);
        due("{'':null}", 0, 7);
        due("{a:1}", 0, 12);
        due("{a:1L,d:{a:1,r:[]}}", 0, 5 + 11 + 3 + 12 + 8);
        for (int bytes : new int[] {127, 128, 255, 256, 257, 1999, 2000}) {
            due(Docs.large("t", bytes), 0, bytes);
        }
    }

    private static void elements() {
        Check.sentence(PLACE, "1 how many elements");
        due("{}", 1, 0);
        due("{'':null}", 1, 1);
        due("{a:1,b:{c:1,d:2,e:{}},f:[1,2,3]}", 1, 3);
        due("{a:'1,2',b:'',c:true,d:null,e:1,f:1L,g:{},h:[]}", 1, 8);
        due(Docs.large("t", 2000), 1, 1);
        due(Docs.mostElements(), 1, 530);
    }

    private static void depth() {
        Check.sentence(PLACE, "2 how deep its deepest document or row lies.");
        due("{}", 2, 1);
        due("{a:1,b:'x'}", 2, 1);
        due("{a:{}}", 2, 2);
        due("{a:[]}", 2, 2);
        due("{a:1,b:{c:1,d:2,e:{}},f:[]}", 2, 3);
        due("{r:[[[]],{}],s:{}}", 2, 4);
        due("{s:{},r:[[{}],{}]}", 2, 4);
        due("{s:{},r:[{},{},[{}]],t:[[]]}", 2, 4);
        for (int depth = 2; depth <= 16; depth++) {
            due(Docs.deep(depth), 2, depth);
            due("{a:" + Docs.deepRow(depth - 1) + "}", 2, depth);
            due("{a:{},b:" + Docs.deepRow(depth - 1) + ",c:[1],d:'x'}", 2, depth);
        }
    }

    private static void others() {
        Check.sentence(PLACE, "-1 for others, or no such slot.");
        Desk desk = new Desk();
        desk.read(0, "{a:{b:1},c:1}");
        for (int what : new int[] {-1, 3, 4, -2, 256, Integer.MIN_VALUE, Integer.MAX_VALUE}) {
            for (int slot = 0; slot < 4; slot++) {
                Check.due("what " + what, desk.many(slot, what), -1);
            }
        }
    }

    private static void noSuchSlot() {
        Check.sentence(PLACE, "-1 for others, or no such slot.");
        Desk desk = new Desk();
        for (int slot : new int[] {-1, 4, 5, -4, 256, Integer.MIN_VALUE, Integer.MAX_VALUE}) {
            for (int what = -1; what < 4; what++) {
                Check.due("slot " + slot + ", what " + what, desk.many(slot, what), -1);
            }
        }
    }

    private static void behindChanges() {
        Check.sentence(PLACE, "Of the document of a slot");
        Desk desk = new Desk();
        desk.change("{$set:{'a.b.c':1,d:2}}");
        desk.apply(3);
        Check.due("bytes", desk.many(3, 0), Docs.of("{a:{b:{c:1}},d:2}").length);
        Check.due("elements", desk.many(3, 1), 2);
        Check.due("depth", desk.many(3, 2), 3);
        desk.change("{$unset:{a:1}}");
        desk.apply(3);
        Check.due("bytes", desk.many(3, 0), 12);
        Check.due("elements", desk.many(3, 1), 1);
        Check.due("depth", desk.many(3, 2), 1);
        desk.change("{$push:{e:1},$set:{'d.x':1}}");
        Check.due("fault 6", desk.apply(3), -14);
        Check.due("bytes", desk.many(3, 0), 12);
        Check.due("elements", desk.many(3, 1), 1);
        desk.copy(3, 0);
        Check.due("bytes", desk.many(3, 0), 5);
        Check.due("elements", desk.many(3, 1), 0);
    }
}
