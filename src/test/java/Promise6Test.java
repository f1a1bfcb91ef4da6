/** Promise 6: place. */
public final class Promise6Test {
    public static void main(String[] args) {
        faultsOfChanges();
        faultsOfDoing();
        latestFaultStays();
        Check.end();
    }

    private static void due(String what, Desk desk, int operator, int path) {
        Check.due(what + ": operator", desk.x.place(0), operator);
        Check.due(what + ": path", desk.x.place(1), path);
        Check.due(what + ": 2", desk.x.place(2), -1);
        Check.due(what + ": -1", desk.x.place(-1), -1);
        Check.due(what + ": far off", desk.x.place(Integer.MIN_VALUE), -1);
    }

    private static void faultsOfChanges() {
        Desk desk = new Desk();
        due("none yet", desk, -1, -1);
        desk.change("{$set:{a:1,b:1},$inc:{c:1,d:1,e:'x'}}");
        due("fault 4", desk, 1, 2);
        desk.change("{$set:{a:1},$inc:{c:1},x:{}}");
        due("fault 1 has no path", desk, 2, -1);
        desk.change("{$set:{a:1,'':1}}");
        due("fault 3", desk, 0, 1);
        desk.change("{$set:{a:1},$inc:1}");
        due("fault 2 has no path", desk, 1, -1);
        desk.change("{$set:{},$unset:{},$inc:{b:1},$push:{a:1,'b.c':1}}");
        due("fault 5", desk, 3, 1);
    }

    private static void faultsOfDoing() {
        Desk desk = new Desk();
        desk.read(0, "{t:'x',n:9223372036854775807L}");
        desk.change("{$unset:{},$set:{a:1,'t.x':1}}");
        Check.due("fault 6", desk.x.apply(0), -14);
        due("fault 6", desk, 1, 1);
        desk.change("{$push:{t:1}}");
        Check.due("fault 7", desk.x.apply(0), -13);
        due("fault 7", desk, 0, 0);
        desk.change("{$set:{a:1},$unset:{t:1},$inc:{b:1,c:1,n:1}}");
        Check.due("fault 8", desk.x.apply(0), -12);
        due("fault 8", desk, 2, 2);
        desk.change("{$set:{a:" + Docs.deep(14) + "},$push:{'b.b.b':" + Docs.deep(14) + "}}");
        Check.due("fault 9", desk.x.apply(0), -11);
        due("fault 9 has neither", desk, -1, -1);
    }

    private static void latestFaultStays() {
        Desk desk = new Desk();
        desk.change("{$set:{a:1,'a.b':1}}");
        due("fault 5", desk, 0, 1);
        Check.due("no change is no fault", desk.x.apply(0), -2);
        Check.due("no document is no fault", desk.change(Docs.raw(1, 2, 3)), -1);
        Check.due("no such n is no fault", desk.x.change(-1), -2);
        Check.due("a right change", desk.change("{$set:{a:1}}"), 1);
        Check.due("done", desk.x.apply(0), 1);
        Check.due("no slot is no fault", desk.x.apply(9), -1);
        desk.read(0, "{}");
        desk.read(0, Docs.raw(1));
        desk.x.copy(0, 1);
        due("the same fault", desk, 0, 1);
        desk.change("{x:{}}");
        due("another one", desk, 0, -1);
    }
}
