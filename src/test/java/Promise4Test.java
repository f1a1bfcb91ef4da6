/** Promise 4: change, and its faults 1 to 5. */
public final class Promise4Test {
    public static void main(String[] args) {
        counts();
        wrongCalls();
        noDocument();
        operators();
        paths();
        arguments();
        clashes();
        order();
        Check.end();
    }

    private static void due(String change, int answer, int operator, int path) {
        Desk desk = new Desk();
        desk.change("{}");
        Check.due(change, desk.change(change), answer);
        Check.due(change + ": operator", desk.x.place(0), operator);
        Check.due(change + ": path", desk.x.place(1), path);
        if (answer < 0) {
            Check.due(change + ": no change then", desk.x.apply(0), -2);
        }
        Check.due(change + ": the tape is empty", desk.x.feed(0, 0, 0, 0, 0), 20);
    }

    private static void right(String change, int paths) {
        due(change, paths, -1, -1);
    }

    private static void counts() {
        right("{}", 0);
        right("{$set:{}}", 0);
        right("{$set:{},$unset:{},$inc:{},$push:{},$pull:{},$addToSet:{}}", 0);
        right("{$set:{a:1}}", 1);
        right("{$set:{a:1,b:{x:1}},$unset:{c:null},$inc:{d:1,e:1L},$push:{f:[]},$pull:{g:'x'},$addToSet:{h:true}}", 8);
    }

    private static void wrongCalls() {
        Desk desk = new Desk();
        desk.change("{$set:{a:1}}");
        byte[] bytes = Docs.of("{$set:{b:1}}");
        desk.feed(bytes);
        Check.due("n -1", desk.x.change(-1), -2);
        Check.due("n lowest", desk.x.change(Integer.MIN_VALUE), -2);
        Check.due("n highest", desk.x.change(Integer.MAX_VALUE), -2);
        Check.due("n 41", desk.x.change(41), -2);
        Check.due("the change stays", desk.x.apply(0), 1);
        Check.due("the tape stayed", desk.x.change(bytes.length), 1);
        Check.due("apply", desk.x.apply(0), 1);
        desk.holds("both", 0, "{a:1,b:1}");
    }

    private static void noDocument() {
        Desk desk = new Desk();
        desk.change("{$set:{a:1}}");
        Check.due("no bytes", desk.x.change(0), -1);
        Check.due("no change then", desk.x.apply(0), -2);
        desk.change("{$set:{a:1}}");
        Check.due("names that are not different", desk.change("{$set:{a:1},$set:{b:1}}"), -1);
        Check.due("no change then", desk.x.apply(0), -2);
        Check.due("the same path twice in one operator", desk.change("{$set:{a:1,a:1}}"), -1);
        Check.due("it is no fault", desk.x.place(0), -1);
        byte[] bytes = Docs.of("{$set:{a:1}}");
        Check.due("a byte more", desk.change(java.util.Arrays.copyOf(bytes, bytes.length + 1)), -1);
        Check.due("a byte less", desk.change(java.util.Arrays.copyOf(bytes, bytes.length - 1)), -1);
        Check.due("the tape is empty", desk.x.feed(0, 0, 0, 0, 0), 20);
        Desk deep = new Desk();
        Check.due("16 deep", deep.change("{$set:{a:" + Docs.deep(14) + "}}"), 1);
        Check.due("17 deep", deep.change("{$set:{a:" + Docs.deep(15) + "}}"), -1);
    }

    private static void operators() {
        due("{a:{}}", -9, 0, -1);
        due("{'':{}}", -9, 0, -1);
        due("{set:{}}", -9, 0, -1);
        due("{$se:{}}", -9, 0, -1);
        due("{$sett:{}}", -9, 0, -1);
        due("{$Set:{}}", -9, 0, -1);
        due("{$addtoset:{}}", -9, 0, -1);
        due("{$addToSe:{}}", -9, 0, -1);
        due("{$set:{},$unset:{},$rename:{}}", -9, 2, -1);
        due("{a:1}", -9, 0, -1);
        due("{$set:1}", -8, 0, -1);
        due("{$set:[]}", -8, 0, -1);
        due("{$inc:[1]}", -8, 0, -1);
        due("{$push:null}", -8, 0, -1);
        due("{$set:{a:1},$pull:'x'}", -8, 1, -1);
    }

    private static void paths() {
        right("{$set:{a:1,'a b':1,'$x':1,'0':1,'00':1,'-1':1,'\u00e9.\u20ac':1}}", 7);
        right("{$set:{'a.b.c.d.e.f.g.h':1}}", 1);
        due("{$set:{'a.b.c.d.e.f.g.h.i':1}}", -7, 0, 0);
        due("{$set:{'':1}}", -7, 0, 0);
        due("{$set:{'.':1}}", -7, 0, 0);
        due("{$set:{'a.':1}}", -7, 0, 0);
        due("{$set:{'.a':1}}", -7, 0, 0);
        due("{$set:{'a..b':1}}", -7, 0, 0);
        due("{$set:{a:1,'b.c':1,'a.b.':1}}", -7, 0, 2);
        due("{$set:{a:1},$unset:{b:1,'..':1}}", -7, 1, 1);
    }

    private static void arguments() {
        right("{$inc:{a:1,b:1L,c:-1,d:0}}", 4);
        due("{$inc:{a:'1'}}", -6, 0, 0);
        due("{$inc:{a:null}}", -6, 0, 0);
        due("{$inc:{a:true}}", -6, 0, 0);
        due("{$inc:{a:{}}}", -6, 0, 0);
        due("{$inc:{a:1,b:[]}}", -6, 0, 1);
        right("{$set:{a:'1'},$push:{b:null},$pull:{c:true},$unset:{d:[]},$addToSet:{e:{}}}", 5);
    }

    private static void clashes() {
        due("{$set:{a:1},$unset:{a:1}}", -5, 1, 0);
        due("{$set:{a:1,'a.b':1}}", -5, 0, 1);
        due("{$set:{'a.b':1,a:1}}", -5, 0, 1);
        due("{$set:{'a.b.c':1},$push:{x:1,'a.b':1}}", -5, 1, 1);
        due("{$set:{'a.b':1},$push:{x:1},$pull:{y:1,'a.b.c.d':1}}", -5, 2, 1);
        right("{$set:{a:1,ab:1,'abc.c':1}}", 3);
        right("{$set:{ab:1,a:1,b:1}}", 3);
        right("{$set:{'a.b':1,'a.bc':1,'a.c':1}}", 3);
        right("{$set:{'a.0':1,'a.00':1}}", 2);
        right("{$set:{'a.b':1,'b.a':1}}", 2);
        due("{$set:{'a.0':1},$push:{'a.0':1}}", -5, 1, 0);
    }

    private static void order() {
        due("{x:1,$set:1}", -9, 0, -1);
        due("{$set:1,x:{}}", -8, 0, -1);
        due("{$set:{'':1},x:{}}", -7, 0, 0);
        due("{$inc:{'':'x'}}", -7, 0, 0);
        due("{$set:{a:1},$inc:{a:'x'}}", -6, 1, 0);
        due("{$set:{a:1},$inc:{a:1,b:'x'}}", -5, 1, 0);
        due("{$set:{a:1},$inc:{b:'x',a:1}}", -6, 1, 0);
    }
}
