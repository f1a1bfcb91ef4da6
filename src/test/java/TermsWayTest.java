/** Terms: how a change goes its paths, what it makes on the way, and fault 6. */
public final class TermsWayTest {
    private static final String PLACE = "Terms, DOING";
    private static final String[] MAKERS = {"$set", "$inc", "$push", "$addToSet"};
    private static final String[] NO_HOLDERS = {"1", "1L", "0", "'t'", "''", "null", "true", "false"};

    public static void main(String[] args) {
        order();
        makingInDocuments();
        makingInRows();
        noHolder();
        noNumberInRow();
        greaterNumberInRow();
        freePlaces();
        makeNothing();
        Check.end();
    }

    /** What an argument of 1 becomes at a free place. */
    private static String made(String operator) {
        return operator.equals("$set") || operator.equals("$inc") ? "1" : "[1]";
    }

    private static void order() {
        Check.sentence(PLACE, "DOING a change to a document: path by path, in their order.");
        Desk.done("{}", "{$set:{b:1,a:2},$push:{d:3},$inc:{c:4}}", 4, "{b:1,a:2,d:[3],c:4}");
        Desk.done("{}", "{$inc:{c:4},$push:{d:3},$set:{a:2,b:1}}", 4, "{c:4,d:[3],a:2,b:1}");
        Desk.done("{r:[]}", "{$set:{'r.0':1,'r.1':2},$push:{'r.2':3}}", 3, "{r:[1,2,[3]]}");
        Desk.fails("{r:[]}", "{$set:{'r.1':1,'r.0':2}}", 6);
        Desk.done("{r:[]}", "{$inc:{'r.0':1},$set:{'r.1':2}}", 2, "{r:[1,2]}");
        Desk.fails("{r:[]}", "{$set:{'r.1':2},$inc:{'r.0':1}}", 6);
    }

    private static void makingInDocuments() {
        Check.sentence(PLACE, "at each step but the last one, in a document, if it has no such element, one comes behind the"
            + " others, which is a document without elements (whatever the step behind it is)");
        for (String operator : MAKERS) {
            String made = made(operator);
            Desk.done("{}", "{" + operator + ":{'a.b':1}}", 1, "{a:{b:" + made + "}}");
            Desk.done("{}", "{" + operator + ":{'a.0':1}}", 1, "{a:{'0':" + made + "}}");
            Desk.done("{}", "{" + operator + ":{'0.0.1':1}}", 1, "{'0':{'0':{'1':" + made + "}}}");
            Desk.done("{}", "{" + operator + ":{'a.5.00.b':1}}", 1, "{a:{'5':{'00':{b:" + made + "}}}}");
            Desk.done("{}", "{" + operator + ":{'a.b.c.d.e.f.g.h':1}}", 1,
                "{a:{b:{c:{d:{e:{f:{g:{h:" + made + "}}}}}}}}");
            Desk.done("{z:1,y:{}}", "{" + operator + ":{'a.b':1}}", 1, "{z:1,y:{},a:{b:" + made + "}}");
            Desk.done("{a:{z:1},y:2}", "{" + operator + ":{'a.b.c':1}}", 1, "{a:{z:1,b:{c:" + made + "}},y:2}");
            Desk.done("{a:{b:{z:1}}}", "{" + operator + ":{'a.b.c.d':1}}", 1, "{a:{b:{z:1,c:{d:" + made + "}}}}");
            Desk.done("{ab:{},'a.b':{}}", "{" + operator + ":{'a.b':1}}", 1, "{ab:{},'a.b':{},a:{b:" + made + "}}");
        }
        Desk.done("{z:1}", "{$set:{'a.b':1,'a.c':2,'a.d.e':3,'a.d.f':4}}", 4, "{z:1,a:{b:1,c:2,d:{e:3,f:4}}}");
        Desk.done("{}", "{$set:{'a.b':[]},$push:{'a.c':1},$addToSet:{'a.d':1},$inc:{'a.e':1}}", 4,
            "{a:{b:[],c:[1],d:[1],e:1}}");
    }

    private static void makingInRows() {
        Check.sentence(PLACE, "in a row, if the number is that of how many items it has, such a document comes behind them.");
        for (String operator : MAKERS) {
            String made = made(operator);
            for (int items : new int[] {0, 1, 2, 9, 10, 11, 99, 100, 101}) {
                String row = Docs.times("7,", items);
                Desk.done("{r:[" + row + "],s:1}", "{" + operator + ":{'r." + items + ".x':1}}", 1,
                    "{r:[" + row + "{x:" + made + "}],s:1}");
            }
            Desk.done("{r:[]}", "{" + operator + ":{'r.0.0':1}}", 1, "{r:[{'0':" + made + "}]}");
            Desk.done("{r:[]}", "{" + operator + ":{'r.0.0.0.x':1}}", 1, "{r:[{'0':{'0':{x:" + made + "}}}]}");
            Desk.done("{r:[[]]}", "{" + operator + ":{'r.0.0.x':1}}", 1, "{r:[[{x:" + made + "}]]}");
            Desk.done("{r:[{},{}]}", "{" + operator + ":{'r.1.x.y':1}}", 1, "{r:[{},{x:{y:" + made + "}}]}");
        }
    }

    private static void noHolder() {
        Check.sentence(PLACE, "FAULT 6: a step (the last one, too) that stands at neither a document nor a row");
        for (String operator : MAKERS) {
            for (String value : NO_HOLDERS) {
                Desk.fails("{a:" + value + "}", "{" + operator + ":{'a.b':1}}", 6);
                Desk.fails("{a:" + value + "}", "{" + operator + ":{'a.0':1}}", 6);
                Desk.fails("{a:" + value + "}", "{" + operator + ":{'a.b.c':1}}", 6);
                Desk.fails("{a:" + value + "}", "{" + operator + ":{'a.b.c.d.e.f.g.h':1}}", 6);
                Desk.fails("{a:{b:" + value + "},b:{}}", "{" + operator + ":{'a.b.c':1}}", 6);
                Desk.fails("{r:[" + value + "]}", "{" + operator + ":{'r.0.x':1}}", 6);
                Desk.fails("{r:[{}," + value + "]}", "{" + operator + ":{'r.1.0.x':1}}", 6);
                Desk.fails("{a:{b:{c:{d:{e:{f:{g:" + value + "}}}}}}}", "{" + operator + ":{'a.b.c.d.e.f.g.h':1}}", 6);
            }
        }
    }

    private static void noNumberInRow() {
        Check.sentence(PLACE, "or at a row and is no number");
        for (String operator : MAKERS) {
            for (String step : new String[] {"x", "00", "01", "-1", "-0", "+0", " 0", "0 ", "1x", "\u0660"}) {
                for (String row : new String[] {"[]", "[{}]", "[[],[]]"}) {
                    Desk.fails("{r:" + row + "}", "{" + operator + ":{'r." + step + "':1}}", 6);
                    Desk.fails("{r:" + row + "}", "{" + operator + ":{'r." + step + ".x':1}}", 6);
                    Desk.fails("{d:{r:[" + row + "]}}", "{" + operator + ":{'d.r.0." + step + "':1}}", 6);
                }
            }
        }
    }

    private static void greaterNumberInRow() {
        Check.sentence(PLACE, "or a greater one than the row has items.");
        for (String operator : MAKERS) {
            for (int items : new int[] {0, 1, 2, 8, 9, 10, 11, 98, 99, 100}) {
                String row = "{r:" + Docs.row("1", items) + "}";
                Desk.fails(row, "{" + operator + ":{'r." + (items + 1) + "':1}}", 6);
                Desk.fails(row, "{" + operator + ":{'r." + (items + 1) + ".x':1}}", 6);
                Desk.fails(row, "{" + operator + ":{'r." + (items + 2) + "':1}}", 6);
                Desk.fails(row, "{" + operator + ":{'r." + items + "0000000000':1}}", 6);
                Desk.fails(row, "{" + operator + ":{'r." + ((1L << 32) + items) + "':1}}", 6);
                Desk.fails(row, "{" + operator + ":{'r." + ((1L << 32) + items) + ".x':1}}", 6);
            }
        }
    }

    private static void freePlaces() {
        Check.sentence(PLACE, "A value that comes to a free place comes behind the others.");
        for (String operator : MAKERS) {
            String made = made(operator);
            Desk.done("{}", "{" + operator + ":{a:1}}", 1, "{a:" + made + "}");
            Desk.done("{z:1,b:2}", "{" + operator + ":{a:1}}", 1, "{z:1,b:2,a:" + made + "}");
            Desk.done("{d:{z:1},e:2}", "{" + operator + ":{'d.a':1}}", 1, "{d:{z:1,a:" + made + "},e:2}");
            Desk.done("{d:{},e:2}", "{" + operator + ":{'d.a':1}}", 1, "{d:{a:" + made + "},e:2}");
            for (int items : new int[] {0, 1, 2, 9, 10, 11, 99, 100, 101}) {
                String row = Docs.times("7,", items);
                Desk.done("{r:[" + row + "],s:1}", "{" + operator + ":{'r." + items + "':1}}", 1,
                    "{r:[" + row + made + "],s:1}");
            }
            Desk.done("{r:[[7]]}", "{" + operator + ":{'r.0.1':1}}", 1, "{r:[[7," + made + "]]}");
        }
    }

    private static void makeNothing() {
        Check.sentence(PLACE, "$unset, $pull make nothing: when a step meets nothing, nothing is done.");
        for (String operator : new String[] {"$unset", "$pull"}) {
            for (String path : new String[] {"q", "q.w", "q.0", "a.b", "a.0", "a.b.c", "d.q", "d.q.w", "d.e.f", "r.2", "r.2.x",
                "r.x", "r.00", "r.01", "r.-1", "r.99999999999", "r.0.x", "r.1.x", "r.1.1", "r.1.0.0",
                "q.w.e.r.t.y.u.i"}) {
                String before = "{a:1,d:{e:'x'},r:[null,[1]],t:''}";
                Desk.done(before, "{" + operator + ":{'" + path + "':1}}", 0, before);
                Desk.done("{}", "{" + operator + ":{'" + path + "':1}}", 0, "{}");
            }
            for (String value : NO_HOLDERS) {
                Desk.done("{a:" + value + "}", "{" + operator + ":{'a.b':1}}", 0, "{a:" + value + "}");
                Desk.done("{a:" + value + "}", "{" + operator + ":{'a.0.b':1}}", 0, "{a:" + value + "}");
            }
        }
        Desk.done("{}", "{$unset:{'a.b':1},$set:{'c.d':1},$pull:{'e.f':1}}", 1, "{c:{d:1}}");
    }
}
