/** Terms: what each of the six operators does at its path's place, and the faults 7 and 8. */
public final class TermsOperatorsTest {
    private static final String PLACE = "Terms, DOING";
    private static final String[] VALUES = {"1", "2L", "'t'", "''", "null", "true", "{}", "{x:1,y:[2]}", "[]", "[1,{x:2}]"};

    public static void main(String[] args) {
        set();
        setItems();
        incAtFreePlace();
        incOf32Bits();
        incOf64Bits();
        incTooGreat();
        push();
        pushManyItems();
        addToSet();
        wrongClass();
        unset();
        pull();
        pullMovesUp();
        pullWrongClass();
        eightSteps();
        Check.end();
    }

    private static void set() {
        Check.sentence(PLACE, "$set: the argument comes to that place, instead of what was there.");
        for (String old : VALUES) {
            for (String value : VALUES) {
                int changed = old.equals(value) ? 0 : 1;
                Desk.done("{a:" + old + "}", "{$set:{a:" + value + "}}", changed, "{a:" + value + "}");
                Desk.done("{z:1,a:" + old + ",b:2}", "{$set:{a:" + value + "}}", changed, "{z:1,a:" + value + ",b:2}");
                Desk.done("{d:{z:1,a:" + old + ",b:2},e:3}", "{$set:{'d.a':" + value + "}}", changed,
                    "{d:{z:1,a:" + value + ",b:2},e:3}");
            }
            Desk.done("{z:1}", "{$set:{a:" + old + "}}", 1, "{z:1,a:" + old + "}");
        }
        Desk.done("{a:{x:1},b:[1]}", "{$set:{a:{x:1},b:[1]}}", 0, "{a:{x:1},b:[1]}");
        Desk.done("{a:false}", "{$set:{a:true}}", 1, "{a:true}");
        Desk.done("{a:{b:{c:1}},d:2}", "{$set:{'a.b.c':'xyz'}}", 1, "{a:{b:{c:'xyz'}},d:2}");
    }

    private static void setItems() {
        Check.sentence(PLACE, "$set: the argument comes to that place, instead of what was there.");
        for (String old : VALUES) {
            for (String value : VALUES) {
                Desk.done("{r:[7," + old + ",8]}", "{$set:{'r.1':" + value + "}}", old.equals(value) ? 0 : 1,
                    "{r:[7," + value + ",8]}");
            }
        }
        Desk.done("{r:[1,{a:1}]}", "{$set:{'r.1.a':5,'r.1.b':6}}", 2, "{r:[1,{a:5,b:6}]}");
        Desk.done("{r:[0,1,2,3,4,5,6,7,8,9,10,11]}", "{$set:{'r.10':'x','r.1':'y'}}", 2,
            "{r:[0,'y',2,3,4,5,6,7,8,9,'x',11]}");
    }

    private static void incAtFreePlace() {
        Check.sentence(PLACE, "$inc: at a free place it is the argument");
        for (String value : new String[] {"5", "0", "-1", "2147483647", "-2147483648", "5L", "0L", "-1L",
            "9223372036854775807L", "-9223372036854775808L"}) {
            Desk.done("{}", "{$inc:{a:" + value + "}}", 1, "{a:" + value + "}");
            Desk.done("{r:[7]}", "{$inc:{'r.1':" + value + "}}", 1, "{r:[7," + value + "]}");
            Desk.done("{}", "{$inc:{'a.b':" + value + "}}", 1, "{a:{b:" + value + "}}");
        }
    }

    private static void incOf32Bits() {
        Check.sentence(PLACE, "a number becomes the sum, of 32 bits if both are and it is one of these, else of 64 bits");
        sum("1", "5", "6");
        sum("1", "-5", "-4");
        sum("-1", "1", "0");
        sum("0", "-1", "-1");
        sum("2147483646", "1", "2147483647");
        sum("2147483647", "1", "2147483648L");
        sum("2147483647", "2147483647", "4294967294L");
        sum("2147483647", "-2147483648", "-1");
        sum("-2147483647", "-1", "-2147483648");
        sum("-2147483648", "-1", "-2147483649L");
        sum("-2147483648", "-2147483648", "-4294967296L");
        sum("1", "0", "1");
        sum("2147483647", "0", "2147483647");
    }

    private static void incOf64Bits() {
        Check.sentence(PLACE, "a number becomes the sum, of 32 bits if both are and it is one of these, else of 64 bits");
        sum("1L", "5", "6L");
        sum("1", "5L", "6L");
        sum("1L", "5L", "6L");
        sum("1L", "-1", "0L");
        sum("1", "0L", "1L");
        sum("0L", "0L", "0L");
        sum("1L", "0", "1L");
        sum("-1", "4294967296L", "4294967295L");
        sum("2147483648L", "-1", "2147483647L");
        sum("-1L", "-2147483648", "-2147483649L");
        sum("9223372036854775806L", "1", "9223372036854775807L");
        sum("9223372036854775807L", "0", "9223372036854775807L");
        sum("9223372036854775807L", "-9223372036854775808L", "-1L");
        sum("-9223372036854775807L", "-1", "-9223372036854775808L");
        sum("4611686018427387904L", "4611686018427387903L", "9223372036854775807L");
        sum("-4611686018427387904L", "-4611686018427387904L", "-9223372036854775808L");
    }

    private static void sum(String a, String b, String sum) {
        inc(a, b, sum);
        inc(b, a, sum);
    }

    private static void inc(String old, String by, String sum) {
        int changed = old.equals(sum) ? 0 : 1;
        Desk.done("{a:" + old + "}", "{$inc:{a:" + by + "}}", changed, "{a:" + sum + "}");
        Desk.done("{z:1,d:{a:" + old + ",b:2},c:3}", "{$inc:{'d.a':" + by + "}}", changed, "{z:1,d:{a:" + sum + ",b:2},c:3}");
        Desk.done("{r:[7," + old + ",8]}", "{$inc:{'r.1':" + by + "}}", changed, "{r:[7," + sum + ",8]}");
    }

    private static void incTooGreat() {
        Check.sentence(PLACE, "fault 8 when it is none of 64 bits.");
        String most = "9223372036854775807L";
        String least = "-9223372036854775808L";
        for (String[] pair : new String[][] {{most, "1"}, {most, "1L"}, {most, "2147483647"}, {most, most}, {least, "-1"},
            {least, "-1L"}, {least, "-2147483648"}, {least, least}, {"4611686018427387904L", "4611686018427387904L"},
            {"-4611686018427387905L", "-4611686018427387904L"}, {"6148914691236517205L", "6148914691236517205L"},
            {"9223372032559808512L", "4294967296L"}, {"-9223372036854775807L", "-2"}}) {
            Desk.fails("{a:" + pair[0] + "}", "{$inc:{a:" + pair[1] + "}}", 8);
            Desk.fails("{a:" + pair[1] + "}", "{$inc:{a:" + pair[0] + "}}", 8);
            Desk.fails("{r:[1," + pair[0] + "]}", "{$inc:{'r.1':" + pair[1] + "}}", 8);
        }
    }

    private static void push() {
        Check.sentence(PLACE, "$push: at a free place comes a row with the argument as its only item; to a row it comes behind"
            + " the others.");
        for (String value : VALUES) {
            Desk.done("{}", "{$push:{r:" + value + "}}", 1, "{r:[" + value + "]}");
            Desk.done("{a:1}", "{$push:{'d.r':" + value + "}}", 1, "{a:1,d:{r:[" + value + "]}}");
            Desk.done("{r:[7]}", "{$push:{'r.1':" + value + "}}", 1, "{r:[7,[" + value + "]]}");
            Desk.done("{r:[],s:1}", "{$push:{r:" + value + "}}", 1, "{r:[" + value + "],s:1}");
            Desk.done("{r:[7],s:1}", "{$push:{r:" + value + "}}", 1, "{r:[7," + value + "],s:1}");
            Desk.done("{r:[" + value + "]}", "{$push:{r:" + value + "}}", 1, "{r:[" + value + "," + value + "]}");
            Desk.done("{r:[1,[2],3]}", "{$push:{'r.1':" + value + "}}", 1, "{r:[1,[2," + value + "],3]}");
        }
    }

    private static void pushManyItems() {
        Check.sentence(PLACE, "to a row it comes behind the others.");
        for (int items : new int[] {1, 2, 8, 9, 10, 11, 98, 99, 100, 101, 410}) {
            String row = Docs.times("null,", items);
            Desk.done("{r:[" + row + "]}", "{$push:{r:null}}", 1, "{r:[" + row + "null]}");
            Desk.done("{r:[" + row + "]}", "{$addToSet:{r:1}}", 1, "{r:[" + row + "1]}");
        }
    }

    private static void addToSet() {
        Check.sentence(PLACE, "$addToSet: likewise, but if the row has an item that is SAME as the argument nothing is done.");
        for (String value : VALUES) {
            Desk.done("{}", "{$addToSet:{r:" + value + "}}", 1, "{r:[" + value + "]}");
            Desk.done("{a:1}", "{$addToSet:{'d.r':" + value + "}}", 1, "{a:1,d:{r:[" + value + "]}}");
            Desk.done("{r:[7]}", "{$addToSet:{'r.1':" + value + "}}", 1, "{r:[7,[" + value + "]]}");
            Desk.done("{r:[],s:1}", "{$addToSet:{r:" + value + "}}", 1, "{r:[" + value + "],s:1}");
            Desk.done("{r:[7,8],s:1}", "{$addToSet:{r:" + value + "}}", 1, "{r:[7,8," + value + "],s:1}");
            for (String row : new String[] {"[" + value + "]", "[" + value + ",7]", "[7," + value + "]", "[7," + value + ",8]",
                "[" + value + "," + value + "]"}) {
                Desk.done("{r:" + row + ",s:1}", "{$addToSet:{r:" + value + "}}", 0, "{r:" + row + ",s:1}");
            }
        }
        Desk.done("{r:[1L]}", "{$addToSet:{r:1}}", 0, "{r:[1L]}");
        Desk.done("{r:[[1]]}", "{$addToSet:{r:1}}", 1, "{r:[[1],1]}");
        Desk.done("{r:[1]}", "{$addToSet:{r:[1]}}", 1, "{r:[1,[1]]}");
        Desk.done("{r:" + Docs.row("null", 400) + "}", "{$addToSet:{r:null}}", 0, "{r:" + Docs.row("null", 400) + "}");
    }

    private static void wrongClass() {
        Check.sentence(PLACE, "FAULT 7: $inc at what is no number, $push, $addToSet at what is no row.");
        for (String value : new String[] {"'1'", "''", "null", "true", "false", "{}", "{'0':1}"}) {
            for (String operator : new String[] {"$inc", "$push", "$addToSet"}) {
                failsEverywhere(operator, value);
            }
        }
        failsEverywhere("$inc", "[]");
        failsEverywhere("$inc", "[1]");
        for (String value : new String[] {"1", "0", "1L"}) {
            failsEverywhere("$push", value);
            failsEverywhere("$addToSet", value);
        }
    }

    private static void failsEverywhere(String operator, String value) {
        Desk.fails("{a:" + value + "}", "{" + operator + ":{a:1}}", 7);
        Desk.fails("{d:{a:" + value + "}}", "{" + operator + ":{'d.a':1}}", 7);
        Desk.fails("{r:[1,[1]," + value + "]}", "{" + operator + ":{'r.2':1}}", 7);
    }

    private static void unset() {
        Check.sentence(PLACE, "$unset: an element of a document goes; an item of a row becomes NOTHING.");
        for (String value : VALUES) {
            for (String argument : VALUES) {
                Desk.done("{a:" + value + "}", "{$unset:{a:" + argument + "}}", 1, "{}");
            }
            Desk.done("{z:1,a:" + value + ",b:2}", "{$unset:{a:1}}", 1, "{z:1,b:2}");
            Desk.done("{a:" + value + ",b:2}", "{$unset:{a:1}}", 1, "{b:2}");
            Desk.done("{z:1,a:" + value + "}", "{$unset:{a:1}}", 1, "{z:1}");
            Desk.done("{d:{a:" + value + "},e:1}", "{$unset:{'d.a':1}}", 1, "{d:{},e:1}");
            int changed = value.equals("null") ? 0 : 1;
            Desk.done("{r:[" + value + "]}", "{$unset:{'r.0':1}}", changed, "{r:[null]}");
            Desk.done("{r:[7," + value + ",8],s:1}", "{$unset:{'r.1':1}}", changed, "{r:[7,null,8],s:1}");
            Desk.done("{r:[7,{a:" + value + ",b:1},8],s:1}", "{$unset:{'r.1.a':1}}", 1, "{r:[7,{b:1},8],s:1}");
        }
        Desk.done("{r:[1]}", "{$unset:{r:1}}", 1, "{}");
        Desk.done("{r:[1,2,3]}", "{$unset:{'r.2':1,'r.1':1,'r.0':1,'r.3':1}}", 3, "{r:[null,null,null]}");
        Desk.done("{r:" + Docs.row("1", 101) + "}", "{$unset:{'r.100':1}}", 1, "{r:[" + Docs.times("1,", 100) + "null]}");
    }

    private static void pull() {
        Check.sentence(PLACE, "$pull: of a row all items that are SAME as the argument go, the others move up");
        for (String value : VALUES) {
            String pull = "{$pull:{r:" + value + "}}";
            Desk.done("{r:[" + value + "]}", pull, 1, "{r:[]}");
            Desk.done("{r:[" + value + "," + value + "],s:1}", pull, 1, "{r:[],s:1}");
            Desk.done("{r:[" + value + ",7,8]}", pull, 1, "{r:[7,8]}");
            Desk.done("{r:[7," + value + ",8]}", pull, 1, "{r:[7,8]}");
            Desk.done("{r:[7,8," + value + "]}", pull, 1, "{r:[7,8]}");
            Desk.done("{r:[" + value + ",7," + value + "," + value + ",8," + value + "],s:2}", pull, 1, "{r:[7,8],s:2}");
            Desk.done("{r:[7,8]}", pull, 0, "{r:[7,8]}");
            Desk.done("{r:[]}", pull, 0, "{r:[]}");
            Desk.done("{r:[[" + value + "],{a:" + value + "}]}", pull, 0, "{r:[[" + value + "],{a:" + value + "}]}");
        }
        Desk.done("{r:[1,2,1L,3],s:1}", "{$pull:{r:1}}", 1, "{r:[2,3],s:1}");
        Desk.done("{d:{r:[{a:1},{a:2}]}}", "{$pull:{'d.r':{a:2L}}}", 1, "{d:{r:[{a:1}]}}");
        Desk.done("{r:[[1,2],[1]]}", "{$pull:{'r.0':2,'r.1':1}}", 2, "{r:[[1],[]]}");
        Desk.done("{r:[[1],1]}", "{$pull:{r:[1]}}", 1, "{r:[1]}");
    }

    private static void pullMovesUp() {
        Check.sentence(PLACE, "$pull: of a row all items that are SAME as the argument go, the others move up");
        for (int items : new int[] {9, 10, 11, 12, 99, 100, 101, 102}) {
            String others = Docs.times("'ab',", items / 2) + Docs.times("{a:[1]},", items - items / 2);
            Desk.done("{r:['x'," + others + "],s:1}", "{$pull:{r:'x'}}", 1, "{r:[" + others + "],s:1}");
            Desk.done("{r:['x','x','x'," + others + "'x']}", "{$pull:{r:'x'}}", 1, "{r:[" + others + "]}");
            Desk.done("{r:[null," + others + "null],s:1}", "{$pull:{r:{a:[1L]}}}", 1,
                "{r:[null," + Docs.times("'ab',", items / 2) + "null],s:1}");
        }
        Desk.done("{r:" + Docs.row("null", 418) + "}", "{$pull:{r:null}}", 1, "{r:[]}");
        Desk.done("{r:[1," + Docs.times("null,", 400) + "2]}", "{$pull:{r:null}}", 1, "{r:[1,2]}");
    }

    private static void pullWrongClass() {
        Check.sentence(PLACE, "fault 7 at what is no row.");
        for (String value : new String[] {"'1'", "''", "null", "true", "false", "{}", "{'0':1}", "1", "1L"}) {
            failsEverywhere("$pull", value);
        }
        Desk.done("{a:1}", "{$pull:{b:1}}", 0, "{a:1}");
        Desk.done("{r:[1]}", "{$pull:{'r.1':1}}", 0, "{r:[1]}");
    }

    private static void eightSteps() {
        Check.sentence("Terms, PATH", "1 to 8 STEPS");
        String path = "'a.b.c.d.e.f.g.h'";
        String ahead = "{z:[1],a:{b:{c:{d:{e:{f:{g:{h:";
        String behind = ",i:1},j:2}}}}}},y:3}";
        Desk.done(ahead + "[1,2]" + behind, "{$push:{" + path + ":3}}", 1, ahead + "[1,2,3]" + behind);
        Desk.done(ahead + "[1,2]" + behind, "{$addToSet:{" + path + ":3}}", 1, ahead + "[1,2,3]" + behind);
        Desk.done(ahead + "[1,2]" + behind, "{$addToSet:{" + path + ":2}}", 0, ahead + "[1,2]" + behind);
        Desk.done(ahead + "[1,2]" + behind, "{$pull:{" + path + ":1}}", 1, ahead + "[2]" + behind);
        Desk.done(ahead + "7" + behind, "{$inc:{" + path + ":1L}}", 1, ahead + "8L" + behind);
        Desk.done(ahead + "7" + behind, "{$set:{" + path + ":'x'}}", 1, ahead + "'x'" + behind);
        Desk.done(ahead + "7" + behind, "{$unset:{" + path + ":1}}", 1,
            ahead.substring(0, ahead.length() - 2) + behind.substring(1));
        String rows = "[[[[[[[7,8]]]]]]]";
        Desk.done("{r:" + rows + "}", "{$inc:{'r.0.0.0.0.0.0.1':1}}", 1, "{r:" + rows.replace("8", "9") + "}");
        Desk.done("{r:" + rows + "}", "{$set:{'r.0.0.0.0.0.0.2':1}}", 1, "{r:" + rows.replace("8", "8,1") + "}");
        Desk.fails("{r:" + rows + "}", "{$set:{'r.0.0.0.0.0.0.3':1}}", 6);
    }
}
