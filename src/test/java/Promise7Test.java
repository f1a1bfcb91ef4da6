/** Promise 7: many. */
public final class Promise7Test {
    public static void main(String[] args) {
        due("{}", 5, 0, 1);
        due("{a:1}", 12, 1, 1);
        due("{a:1,b:{c:1,d:2,e:{}},f:[]}", Docs.of("{a:1,b:{c:1,d:2,e:{}},f:[]}").length, 3, 3);
        due("{r:[[[]],{}],s:{}}", Docs.of("{r:[[[]],{}],s:{}}").length, 2, 4);
        due("{s:{},r:[[{}],{}]}", Docs.of("{s:{},r:[[{}],{}]}").length, 2, 4);
        due(Docs.deep(16), Docs.of(Docs.deep(16)).length, 1, 16);
        due("{t:'" + Docs.times("x", 1987) + "'}", 2000, 1, 1);
        wrongCalls();
        afterChanges();
        Check.end();
    }

    private static void due(String text, int bytes, int elements, int depth) {
        Desk desk = new Desk();
        desk.read(2, text);
        Check.due(text + ": bytes", desk.x.many(2, 0), bytes);
        Check.due(text + ": elements", desk.x.many(2, 1), elements);
        Check.due(text + ": depth", desk.x.many(2, 2), depth);
        Check.due("another slot", desk.x.many(1, 0), 5);
    }

    private static void wrongCalls() {
        UpdateDesk x = new UpdateDesk();
        for (int slot : new int[] {-1, 4, 5, Integer.MIN_VALUE, Integer.MAX_VALUE}) {
            for (int what = -1; what < 4; what++) {
                Check.due("slot " + slot, x.many(slot, what), -1);
            }
        }
        for (int what : new int[] {-1, 3, 4, Integer.MIN_VALUE, Integer.MAX_VALUE}) {
            Check.due("what " + what, x.many(0, what), -1);
        }
    }

    private static void afterChanges() {
        Desk desk = new Desk();
        desk.change("{$set:{'a.b.c':1,d:2}}");
        desk.x.apply(3);
        Check.due("bytes", desk.x.many(3, 0), Docs.of("{a:{b:{c:1}},d:2}").length);
        Check.due("elements", desk.x.many(3, 1), 2);
        Check.due("depth", desk.x.many(3, 2), 3);
        desk.change("{$unset:{a:1}}");
        desk.x.apply(3);
        Check.due("elements", desk.x.many(3, 1), 1);
        Check.due("depth", desk.x.many(3, 2), 1);
    }
}
