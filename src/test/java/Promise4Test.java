import java.util.Arrays;

/** Promise 4: change. */
public final class Promise4Test {
    private static final String PLACE = "Promise 4";

    public static void main(String[] args) {
        paths();
        mostPaths();
        justSoManyBytes();
        tapeIsEmptyThen();
        fromNowOn();
        noDocument();
        faults();
        noChangeThen();
        noSuchCount();
        documentsStay();
        Check.end();
    }

    private static void paths() {
        Check.sentence(PLACE, "are the change from now on: how many paths");
        Desk.isChange("{}", 0);
        Desk.isChange("{$set:{}}", 0);
        Desk.isChange("{$set:{a:1}}", 1);
        Desk.isChange("{$set:{a:1,b:2,c:{d:1,e:2}}}", 3);
        Desk.isChange("{$set:{a:1,b:{x:1}},$unset:{c:null},$inc:{d:1,e:1L},$push:{f:[]},$pull:{g:'x'},$addToSet:{h:true}}", 8);
        Desk.isChange("{$addToSet:{a:1},$pull:{b:1},$push:{c:1},$inc:{d:1},$unset:{e:1},$set:{f:1}}", 6);
    }

    private static void mostPaths() {
        Check.sentence(PLACE, "are the change from now on: how many paths");
        // The name without bytes and the point are no paths; the last one has no room.
        String paths = Docs.mostElements().replace("'':null,", "").replace("'.':null,", "").replace(",'vk':null", "");
        Desk.isChange("{$set:" + paths + "}", 527);
        Desk.done("{}", "{$set:" + paths + "}", 527, paths);
    }

    private static void justSoManyBytes() {
        Check.sentence(PLACE, "-1 when they are no document of just n bytes");
        byte[] bytes = Docs.of("{$set:{a:1}}");
        for (int n = 0; n <= 40; n++) {
            Desk desk = new Desk();
            desk.feed(Arrays.copyOf(bytes, 40));
            Check.due("n " + n, desk.change(n), n == bytes.length ? 1 : -1);
            Check.due("n " + n, desk.apply(0), n == bytes.length ? 1 : -2);
            desk.tells("it is no fault", -1, -1);
        }
        Desk desk = new Desk();
        desk.feed(Docs.join(bytes, Docs.times("x", 100).getBytes()));
        Check.due("what is behind them is no part of it", desk.change(bytes.length), 1);
        Desk.isChange("{$set:" + Docs.large("t", 2000 - 11) + "}", 1);
    }

    private static void tapeIsEmptyThen() {
        Check.sentence(PLACE, "The first n bytes of the tape (which is empty then)");
        for (String text : new String[] {"{}", "{$set:{a:1}}", "{$set:1}", "{x:1}", "{$inc:{a:'x'}}", "{$set:{a:1,a:1}}"}) {
            byte[] bytes = Docs.of(text);
            for (int n : new int[] {0, 1, bytes.length - 1, bytes.length, bytes.length + 1, 60}) {
                Desk desk = new Desk();
                desk.feed(Arrays.copyOf(bytes, 60));
                desk.change(n);
                Check.due(text + ", n " + n + ": nothing is left", desk.change(1), -2);
                Check.due(text + ", n " + n + ": nothing is left", desk.read(0, 1), -2);
                Check.due(text + ", n " + n + ": the next ones", desk.feed(0x05000000, 0, 0, 0, 0), 20);
                Check.due(text + ", n " + n + ": the next ones", desk.change(5), 0);
            }
        }
    }

    private static void fromNowOn() {
        Check.sentence(PLACE, "are the change from now on");
        Desk desk = new Desk();
        desk.change("{$set:{a:1,b:1,c:1}}");
        desk.change("{$set:{d:1}}");
        Check.due("the second one alone", desk.apply(0), 1);
        desk.holds("the second one alone", 0, "{d:1}");
        desk.change("{}");
        Check.due("a change of nothing", desk.apply(0), 0);
        desk.holds("a change of nothing", 0, "{d:1}");
    }

    private static void noDocument() {
        Check.sentence(PLACE, "-1 when they are no document of just n bytes");
        Desk desk = new Desk();
        Check.due("names that are not different", desk.change("{$set:{a:1},$set:{b:1}}"), -1);
        Check.due("a path twice in one operator", desk.change("{$set:{a:1,a:1}}"), -1);
        Check.due("no document, and an operator that is none", desk.change("{x:{a:1,a:1}}"), -1);
        Check.due("17 deep", desk.change("{$set:{a:" + Docs.deep(15) + "}}"), -1);
        Check.due("16 deep", desk.change("{$set:{a:" + Docs.deep(14) + "}}"), 1);
        Check.due("four bytes", desk.change(Docs.raw(4, 0, 0, 0)), -1);
        Check.due("zeros", desk.change(new byte[20]), -1);
        desk.tells("none is a fault", -1, -1);
    }

    private static void faults() {
        Check.sentence(PLACE, "its fault 1 to 5, less 10 (-9 to -5)");
        Desk desk = new Desk();
        Check.due("fault 1", desk.change("{x:{}}"), -9);
        Check.due("fault 2", desk.change("{$set:1}"), -8);
        Check.due("fault 3", desk.change("{$set:{'':1}}"), -7);
        Check.due("fault 4", desk.change("{$inc:{a:null}}"), -6);
        Check.due("fault 5", desk.change("{$set:{a:1},$inc:{a:1}}"), -5);
    }

    private static void noChangeThen() {
        Check.sentence(PLACE, "there is no change then, either way.");
        for (String wrong : new String[] {"{x:{}}", "{$set:1}", "{$set:{c:1,'':1}}", "{$set:{c:1},$inc:{a:null}}",
            "{$set:{a:1},$inc:{a:1}}", "{$set:{a:1,a:1}}"}) {
            Desk desk = new Desk();
            desk.change("{$set:{a:1}}");
            Check.due(wrong, desk.change(wrong) < 0, true);
            Check.due(wrong + ": no change", desk.apply(0), -2);
            desk.holds(wrong, 0, "{}");
            Check.due("the next one", desk.change("{$set:{b:1}}"), 1);
            Check.due("the next one", desk.apply(0), 1);
            desk.holds("the next one", 0, "{b:1}");
        }
        Desk desk = new Desk();
        desk.change("{$set:{a:1}}");
        Check.due("no bytes", desk.change(0), -1);
        Check.due("no bytes: no change", desk.apply(0), -2);
    }

    private static void noSuchCount() {
        Check.sentence(PLACE, "-2, doing nothing, when n is below 0 or more than there are.");
        Desk desk = new Desk();
        desk.change("{$set:{b:1},$inc:{b:1}}");
        desk.change("{$set:{a:1}}");
        for (int n : new int[] {1, 5, 20, -1, Integer.MIN_VALUE, Integer.MAX_VALUE}) {
            Check.due("nothing on the tape, n " + n, desk.change(n), -2);
        }
        byte[] bytes = Docs.of("{$set:{b:1}}");
        desk.feed(bytes);
        for (int n : new int[] {-1, -23, Integer.MIN_VALUE, Integer.MIN_VALUE + 23, 41, 42, 60, 2000, 2001, 65559,
            Integer.MAX_VALUE}) {
            Check.due("n " + n, desk.change(n), -2);
        }
        desk.tells("the latest fault stays", 1, 0);
        Check.due("the change stays", desk.apply(0), 1);
        desk.holds("the change stays", 0, "{a:1}");
        Check.due("the tape stays", desk.feed(0, 0, 0, 0, 0), 60);
        Check.due("the tape stays", desk.change(bytes.length), 1);
        Check.due("apply", desk.apply(0), 1);
        desk.holds("both", 0, "{a:1,b:1}");
        byte[] forty = Docs.of("{$set:" + Docs.large("t", 29) + "}");
        Check.due("as many as there are", desk.feed(forty).change(40), 1);
    }

    private static void documentsStay() {
        Check.sentence(PLACE, "The first n bytes of the tape (which is empty then) are the change from now on");
        Desk desk = new Desk();
        desk.read(0, "{a:1}");
        desk.change("{$set:{a:2}}");
        desk.change("{$set:1}");
        for (int slot = 0; slot < 4; slot++) {
            desk.holds("slot " + slot, slot, slot == 0 ? "{a:1}" : "{}");
        }
    }
}
