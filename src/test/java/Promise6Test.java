/** Promise 6: place. */
public final class Promise6Test {
    private static final String PLACE = "Promise 6";
    private static final String BEFORE = "{t:'x',n:9223372036854775807L}";

    public static void main(String[] args) {
        noneWas();
        fromZeroOn();
        faultsOfApply();
        noPath();
        neither();
        whatIsAnother();
        latest();
        callsWithoutOne();
        manyCallsWithoutOne();
        refusedCalls();
        Check.end();
    }

    /** A desk whose latest fault is one of apply(), on slot 0. */
    private static Desk applied(String change, int answer) {
        Desk desk = new Desk();
        desk.read(0, BEFORE);
        Check.due(change + ": change is below 0", desk.change(change) < 0, false);
        Check.due(change, desk.apply(0), answer);
        return desk;
    }

    private static void noneWas() {
        Check.sentence(PLACE, "-1 when it has none (1 and 2 no path, 9 neither), when none was, or what is another.");
        Desk desk = new Desk();
        desk.tells("a new object", -1, -1);
        desk.change("{$set:{a:1}}");
        desk.tells("a change without a fault", -1, -1);
        desk.apply(0);
        desk.tells("done without a fault", -1, -1);
        desk.change("{$unset:{q:1}}");
        desk.apply(0);
        desk.tells("nothing was done", -1, -1);
    }

    private static void fromZeroOn() {
        Check.sentence(PLACE, "0 the number of its operator (from 0 on), 1 of its path in it");
        Desk.hasFault("{$set:{'':1}}", 3, 0, 0);
        Desk.hasFault("{$set:{a:1,'':1}}", 3, 0, 1);
        Desk.hasFault("{$set:{a:1,b:1},$inc:{c:1,d:1,e:'x'}}", 4, 1, 2);
        Desk.hasFault("{$inc:{a:'x'}}", 4, 0, 0);
        Desk.hasFault("{$set:{a:1},$inc:{a:1}}", 5, 1, 0);
        Desk.hasFault("{$set:{},$unset:{},$inc:{},$push:{},$pull:{a:1},$addToSet:{b:1,a:1}}", 5, 5, 1);
        Desk.hasFault("{$set:{},$unset:{},$inc:{b:1},$push:{a:1,'b.c':1}}", 5, 3, 1);
        StringBuilder many = new StringBuilder();
        for (int i = 0; i < 300; i++) {
            many.append("p").append(i).append(":null,");
        }
        Desk.hasFault("{$set:{x:1},$unset:{" + many + "x:1}}", 5, 1, 300);
    }

    private static void faultsOfApply() {
        Check.sentence(PLACE, "Of the latest fault (1 to 9) of change() or apply()");
        applied("{$set:{'t.x':1}}", -14).tells("fault 6", 0, 0);
        applied("{$unset:{},$set:{a:1,'t.x':1}}", -14).tells("fault 6", 1, 1);
        applied("{$push:{t:1}}", -13).tells("fault 7", 0, 0);
        applied("{$unset:{a:1,b:1},$set:{c:1},$pull:{d:1,t:1}}", -13).tells("fault 7", 2, 1);
        applied("{$inc:{n:1}}", -12).tells("fault 8", 0, 0);
        applied("{$set:{a:1},$unset:{t:1},$inc:{b:1,c:1,n:1}}", -12).tells("fault 8", 2, 2);
        applied("{$set:{},$unset:{},$pull:{},$push:{},$addToSet:{},$inc:{n:1}}", -12).tells("fault 8", 5, 0);
        StringBuilder many = new StringBuilder();
        for (int i = 0; i < 300; i++) {
            many.append("p").append(i).append(":null,");
        }
        applied("{$set:{x:1},$unset:{" + many + "},$inc:{y:1,t:1}}", -13).tells("fault 7", 2, 1);
        applied("{$set:{x:1},$pull:{" + many + "t:1}}", -13).tells("fault 7", 1, 300);
    }

    private static void noPath() {
        Check.sentence(PLACE, "-1 when it has none (1 and 2 no path, 9 neither)");
        Desk.hasFault("{x:{a:1}}", 1, 0, -1);
        Desk.hasFault("{$set:{a:1,b:2},$inc:{c:1},x:{}}", 1, 2, -1);
        Desk.hasFault("{$set:1}", 2, 0, -1);
        Desk.hasFault("{$set:{a:1,b:2},$inc:[1]}", 2, 1, -1);
        Desk desk = applied("{$set:{a:1},$inc:{b:1,t:1}}", -13);
        desk.tells("fault 7", 1, 1);
        desk.change("{x:{}}");
        desk.tells("fault 1 behind fault 7", 0, -1);
    }

    private static void neither() {
        Check.sentence(PLACE, "-1 when it has none (1 and 2 no path, 9 neither)");
        applied("{$push:{'a.b.c':" + Docs.deep(14) + "}}", -11).tells("fault 9", -1, -1);
        applied("{$set:{a:1,b:2},$push:{'c.c.c':" + Docs.deep(14) + "}}", -11).tells("fault 9", -1, -1);
        Desk desk = applied("{$set:{a:1},$inc:{b:1,t:1}}", -13);
        desk.tells("fault 7", 1, 1);
        desk.change("{$push:{'a.b.c':" + Docs.deep(14) + "}}");
        desk.tells("a change without a fault", 1, 1);
        Check.due("fault 9", desk.apply(0), -11);
        desk.tells("fault 9 behind fault 7", -1, -1);
        desk.read(1, Docs.large("t", 1996));
        desk.change("{$inc:{a:1},$set:{'':1}}");
        desk.tells("fault 3", 1, 0);
        desk.change("{$inc:{a:1}}");
        Check.due("fault 9", desk.apply(1), -11);
        desk.tells("fault 9 behind fault 3", -1, -1);
    }

    private static void whatIsAnother() {
        Check.sentence(PLACE, "or what is another.");
        Desk desk = applied("{$set:{a:1},$inc:{b:1,t:1}}", -13);
        for (int what : new int[] {-1, 2, 3, -2, 256, 257, Integer.MIN_VALUE, Integer.MIN_VALUE + 1, Integer.MAX_VALUE}) {
            Check.due("what " + what, desk.place(what), -1);
        }
        desk.tells("fault 7", 1, 1);
    }

    private static void latest() {
        Check.sentence(PLACE, "Of the latest fault (1 to 9) of change() or apply()");
        Desk desk = new Desk();
        desk.read(0, BEFORE);
        desk.change("{$set:{a:1},$inc:{b:1,c:'x'}}");
        desk.tells("fault 4", 1, 1);
        desk.change("{$set:{a:1,b:1,c:1,'':1}}");
        desk.tells("fault 3", 0, 3);
        desk.change("{$unset:{},$pull:{},$push:{t:1}}");
        desk.apply(0);
        desk.tells("fault 7", 2, 0);
        desk.change("{$set:{a:1,'a.b':1}}");
        desk.tells("fault 5", 0, 1);
        desk.change("{$set:{a:1,'t.b':1}}");
        Check.due("no fault on slot 1", desk.apply(1), 2);
        desk.tells("still fault 5", 0, 1);
        desk.change("{$unset:{},$set:{'t.b':1}}");
        desk.apply(0);
        desk.tells("fault 6", 1, 0);
    }

    private static void callsWithoutOne() {
        Check.sentence(PLACE, "however many calls without one came behind it");
        Desk desk = new Desk();
        desk.change("{$set:{a:1,'a.b':1}}");
        desk.change("{$set:{a:1}}");
        desk.tells("a right change", 0, 1);
        desk.apply(0);
        desk.tells("done", 0, 1);
        desk.feed(1, 2, 3, 4, 5);
        desk.tells("feed", 0, 1);
        desk.read(0, 3);
        desk.tells("read of none", 0, 1);
        desk.read(0, "{b:1}");
        desk.tells("read", 0, 1);
        desk.copy(0, 1);
        desk.tells("copy", 0, 1);
        desk.many(0, 0);
        desk.byteAt(0, 0);
        desk.tells("many, byteAt", 0, 1);
        desk.place(5);
        desk.tells("place", 0, 1);
    }

    private static void manyCallsWithoutOne() {
        Check.sentence(PLACE, "however many calls without one came behind it");
        Desk desk = applied("{$set:{a:1},$inc:{b:1,c:1,t:1}}", -13);
        desk.change("{$inc:{b:1}}");
        for (int n = 0; n < 110; n++) {
            Check.due("apply", desk.apply(1), 1);
            desk.copy(2, 1);
            desk.many(2, 0);
            desk.feed(0, 0, 0, 0, 0);
        }
        desk.tells("fault 7", 1, 2);
    }

    private static void refusedCalls() {
        Check.sentence(PLACE, "Of the latest fault (1 to 9) of change() or apply()");
        Desk desk = new Desk();
        desk.change("{$set:{a:1,'a.b':1}}");
        Check.due("no change is no fault", desk.apply(0), -2);
        desk.tells("apply: -2", 0, 1);
        Check.due("no slot is no fault", desk.apply(9), -1);
        desk.tells("apply: -1", 0, 1);
        Check.due("no document is no fault", desk.change(Docs.raw(1, 2, 3)), -1);
        desk.tells("change: -1", 0, 1);
        Check.due("no such n is no fault", desk.change(-1), -2);
        desk.tells("change: -2", 0, 1);
        Check.due("no slot is no fault", desk.read(-1, 0), -2);
        desk.tells("read: -2", 0, 1);
        Check.due("no slot is no fault", desk.copy(-1, 0), false);
        desk.tells("copy: false", 0, 1);
        for (int n = 0; n < 101; n++) {
            desk.feed(0, 0, 0, 0, 0);
        }
        desk.tells("feed: -1", 0, 1);
    }
}
