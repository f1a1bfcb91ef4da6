/** Promise 5: apply. */
public final class Promise5Test {
    private static final String PLACE = "Promise 5";

    public static void main(String[] args) {
        changeStays();
        howMany();
        noSuchSlot();
        noChange();
        faults();
        documentStays();
        changeStaysAtFault();
        oneSlotAlone();
        Check.end();
    }

    private static void changeStays() {
        Check.sentence(PLACE, "The change, which stays, is done to the document of a slot");
        Desk desk = new Desk();
        desk.change("{$inc:{a:1},$push:{r:'x'}}");
        for (int n = 1; n <= 100; n++) {
            Check.due("time " + n, desk.apply(3), 2);
        }
        desk.holds("slot 3", 3, "{a:100,r:" + Docs.row("'x'", 100) + "}");
        desk.read(0, "{b:1}");
        desk.copy(1, 0);
        Check.due("behind other calls", desk.apply(0), 2);
        Check.due("behind other calls", desk.apply(1), 2);
        desk.holds("slot 0", 0, "{b:1,a:1,r:['x']}");
        desk.holds("slot 1", 1, "{b:1,a:1,r:['x']}");
        desk.feed(1, 2, 3, 4, 5);
        desk.read(0, 3);
        Check.due("behind a tape that is no document", desk.apply(2), 2);
    }

    private static void howMany() {
        Check.sentence(PLACE, "how many of its paths changed something.");
        Desk.done("{a:1}", "{}", 0, "{a:1}");
        Desk.done("{a:1}", "{$set:{},$pull:{}}", 0, "{a:1}");
        Desk.done("{a:1}", "{$set:{a:1}}", 0, "{a:1}");
        Desk.done("{a:1}", "{$set:{a:2}}", 1, "{a:2}");
        Desk.done("{a:1}", "{$set:{a:1,b:2},$unset:{c:1,d:1},$inc:{e:1,f:0}}", 3, "{a:1,b:2,e:1,f:0}");
        Desk.done("{r:[1]}", "{$set:{'r.0':2,'r.1':3,'r.2.x':4}}", 3, "{r:[2,3,{x:4}]}");
        String paths = Docs.mostElements().replace("'':null,", "").replace("'.':null,", "").replace(",'vk':null", "");
        Desk.done(paths, "{$set:" + paths + "}", 0, paths);
        Desk.done(paths, "{$set:" + paths.replace("'vj':null", "'vj':true") + "}", 1, paths.replace("'vj':null", "'vj':true"));
    }

    private static void noSuchSlot() {
        Check.sentence(PLACE, "-1 when there is no such slot");
        Desk desk = new Desk();
        for (int slot : new int[] {-1, 4, 5, -4, 256, Integer.MIN_VALUE, Integer.MAX_VALUE}) {
            Check.due("without a change", desk.apply(slot), -1);
        }
        desk.change("{$set:{a:1}}");
        for (int slot : new int[] {-1, 4, 5, -4, 256, Integer.MIN_VALUE, Integer.MAX_VALUE}) {
            Check.due("with a change", desk.apply(slot), -1);
        }
        for (int slot = 0; slot < 4; slot++) {
            desk.holds("slot " + slot, slot, "{}");
        }
        Check.due("the change stays", desk.apply(0), 1);
    }

    private static void noChange() {
        Check.sentence(PLACE, "-2 when there is no change");
        Desk desk = new Desk();
        desk.read(0, "{a:1}");
        for (int slot = 0; slot < 4; slot++) {
            Check.due("a new object", desk.apply(slot), -2);
        }
        desk.holds("slot 0", 0, "{a:1}");
        desk.change("{$set:{b:1}}");
        Check.due("a change", desk.apply(0), 1);
        desk.change("{$set:{'':1}}");
        Check.due("a change with a fault", desk.apply(0), -2);
        desk.change("{$set:{b:1}}");
        desk.change(Docs.raw(1, 2, 3));
        Check.due("no document", desk.apply(0), -2);
        desk.holds("slot 0", 0, "{a:1,b:1}");
    }

    private static void faults() {
        Check.sentence(PLACE, "the fault 6 to 9, less 20 (-14 to -11)");
        Desk desk = new Desk();
        desk.read(0, "{t:'x',n:9223372036854775807L}");
        desk.change("{$set:{'t.x':1}}");
        Check.due("fault 6", desk.apply(0), -14);
        desk.change("{$push:{t:1}}");
        Check.due("fault 7", desk.apply(0), -13);
        desk.change("{$inc:{n:1}}");
        Check.due("fault 8", desk.apply(0), -12);
        desk.change("{$push:{'a.b.c':" + Docs.deep(14) + "}}");
        Check.due("fault 9", desk.apply(0), -11);
    }

    private static void documentStays() {
        Check.sentence(PLACE, "then the document stays.");
        String before = "{t:'x',n:9223372036854775807L,r:[1,2]}";
        String work = "$unset:{'r.0':1,q:1},$set:{a:1,'b.c':2";
        Desk.fails(before, "{" + work + ",'t.x':1}}", 6);
        Desk.fails(before, "{" + work + "},$push:{t:1}}", 7);
        Desk.fails(before, "{" + work + "},$inc:{n:1}}", 8);
        Desk.fails(before, "{" + work + "},$push:{'d.d.d':" + Docs.deep(14) + "}}", 9);
        Desk.fails(before, "{$pull:{r:1},$unset:{n:1},$push:{'s.t':1},$inc:{m:1,'t.u':1}}", 6);
    }

    private static void changeStaysAtFault() {
        Check.sentence(PLACE, "The change, which stays, is done to the document of a slot");
        Desk desk = new Desk();
        desk.read(0, "{a:'x'}");
        desk.read(1, "{a:9223372036854775807L}");
        desk.read(2, Docs.large("t", 1996));
        desk.change("{$inc:{b:1,a:1}}");
        for (int n = 0; n < 3; n++) {
            Check.due("fault 7", desk.apply(0), -13);
            Check.due("fault 8", desk.apply(1), -12);
            Check.due("fault 9", desk.apply(2), -11);
        }
        Check.due("none", desk.apply(3), 2);
        desk.holds("slot 3", 3, "{b:1,a:1}");
        desk.holds("slot 0", 0, "{a:'x'}");
    }

    private static void oneSlotAlone() {
        Check.sentence(PLACE, "is done to the document of a slot");
        for (int slot = 0; slot < 4; slot++) {
            Desk desk = new Desk();
            desk.read(slot, "{a:1}");
            desk.change("{$set:{b:1}}");
            desk.feed(1, 2, 3, 4, 5);
            Check.due("slot " + slot, desk.apply(slot), 1);
            for (int other = 0; other < 4; other++) {
                desk.holds("slot " + other, other, other == slot ? "{a:1,b:1}" : "{}");
            }
            Check.due("the tape stays", desk.feed(1, 2, 3, 4, 5), 40);
        }
    }
}
