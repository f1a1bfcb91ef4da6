/** Promise 5: apply, and the doing of a change. */
public final class Promise5Test {
    public static void main(String[] args) {
        calls();
        set();
        making();
        noWay();
        inc();
        push();
        addToSet();
        unset();
        pull();
        longestPath();
        allOrNothing();
        tooLarge();
        widestDraft();
        tooDeep();
        Check.end();
    }

    private static void calls() {
        Desk desk = new Desk();
        Check.due("no slot and no change", desk.x.apply(-1), -1);
        Check.due("no slot and no change", desk.x.apply(4), -1);
        Check.due("no change", desk.x.apply(3), -2);
        desk.change("{$inc:{a:1}}");
        Check.due("no slot", desk.x.apply(4), -1);
        Check.due("no slot", desk.x.apply(Integer.MIN_VALUE), -1);
        Check.due("slot 3", desk.x.apply(3), 1);
        Check.due("the change stays", desk.x.apply(3), 1);
        Check.due("slot 1", desk.x.apply(1), 1);
        desk.holds("slot 3", 3, "{a:2}");
        desk.holds("slot 1", 1, "{a:1}");
        desk.holds("slot 0", 0, "{}");
        Desk.done("{a:1}", "{}", 0, "{a:1}");
        Desk.done("{a:1}", "{$set:{},$pull:{}}", 0, "{a:1}");
    }

    private static void set() {
        Desk.done("{}", "{$set:{a:1}}", 1, "{a:1}");
        Desk.done("{a:1,b:2,c:3}", "{$set:{b:'text'}}", 1, "{a:1,b:'text',c:3}");
        Desk.done("{a:1,b:'text',c:3}", "{$set:{b:null}}", 1, "{a:1,b:null,c:3}");
        Desk.done("{a:1}", "{$set:{a:1}}", 0, "{a:1}");
        Desk.done("{a:1}", "{$set:{a:1L}}", 1, "{a:1L}");
        Desk.done("{a:{x:1},b:[1]}", "{$set:{a:{x:1},b:[1]}}", 0, "{a:{x:1},b:[1]}");
        Desk.done("{a:{x:1},b:[1]}", "{$set:{a:[],b:{}}}", 2, "{a:[],b:{}}");
        Desk.done("{a:[]}", "{$set:{a:{}}}", 1, "{a:{}}");
        Desk.done("{a:true}", "{$set:{a:false}}", 1, "{a:false}");
        Desk.done("{a:{b:{c:1}},d:2}", "{$set:{'a.b.c':'xyz'}}", 1, "{a:{b:{c:'xyz'}},d:2}");
        Desk.done("{r:[1,2,3]}", "{$set:{'r.1':'x'}}", 1, "{r:[1,'x',3]}");
        Desk.done("{r:[1,{a:1}]}", "{$set:{'r.1.a':5,'r.1.b':6}}", 2, "{r:[1,{a:5,b:6}]}");
        Desk.done("{'a.b':1}", "{$set:{'a.b':2}}", 1, "{'a.b':1,a:{b:2}}");
        Desk.done("{r:[0,1,2,3,4,5,6,7,8,9,10,11]}", "{$set:{'r.10':'x','r.1':'y'}}", 2,
            "{r:[0,'y',2,3,4,5,6,7,8,9,'x',11]}");
        Desk.done("{}", "{$set:{a:1,b:2}}", 2, "{a:1,b:2}");
        Desk.done("{d:{'0':1,'00':2}}", "{$set:{'d.00':3,'d.0':4}}", 2, "{d:{'0':4,'00':3}}");
    }

    private static void making() {
        Desk.done("{}", "{$set:{'a.b.c':1}}", 1, "{a:{b:{c:1}}}");
        Desk.done("{}", "{$set:{'a.0':1}}", 1, "{a:{'0':1}}");
        Desk.done("{}", "{$set:{'a.b.c.d.e.f.g.h':1}}", 1, "{a:{b:{c:{d:{e:{f:{g:{h:1}}}}}}}}");
        Desk.done("{z:1}", "{$set:{'a.b':1,'a.c':2}}", 2, "{z:1,a:{b:1,c:2}}");
        Desk.done("{r:[]}", "{$set:{'r.0':1}}", 1, "{r:[1]}");
        Desk.done("{r:[1],s:2}", "{$set:{'r.1':'x'}}", 1, "{r:[1,'x'],s:2}");
        Desk.done("{r:[1]}", "{$set:{'r.1.x':2}}", 1, "{r:[1,{x:2}]}");
        Desk.done("{r:[1]}", "{$set:{'r.1.0':2}}", 1, "{r:[1,{'0':2}]}");
        Desk.done("{r:[0,1,2,3,4,5,6,7,8,9]}", "{$set:{'r.10':'x','r.11.y':1}}", 2,
            "{r:[0,1,2,3,4,5,6,7,8,9,'x',{y:1}]}");
        Desk.done("{}", "{$push:{'a.b':1}}", 1, "{a:{b:[1]}}");
        Desk.done("{}", "{$addToSet:{'a.b':1}}", 1, "{a:{b:[1]}}");
        Desk.done("{}", "{$inc:{'a.b':1}}", 1, "{a:{b:1}}");
    }

    private static void noWay() {
        for (String operator : new String[] {"$set", "$inc", "$push", "$addToSet"}) {
            Desk.fails("{a:1}", "{" + operator + ":{'a.b':1}}", 6);
            Desk.fails("{a:'t'}", "{" + operator + ":{'a.b.c':1}}", 6);
            Desk.fails("{a:null}", "{" + operator + ":{'a.0':1}}", 6);
            Desk.fails("{a:true}", "{" + operator + ":{'a.b':1}}", 6);
            Desk.fails("{r:[1]}", "{" + operator + ":{'r.x':1}}", 6);
            Desk.fails("{r:[1]}", "{" + operator + ":{'r.2':1}}", 6);
            Desk.fails("{r:[1]}", "{" + operator + ":{'r.2.a':1}}", 6);
            Desk.fails("{r:[1]}", "{" + operator + ":{'r.0.a':1}}", 6);
            Desk.fails("{r:[1]}", "{" + operator + ":{'r.00':1}}", 6);
            Desk.fails("{r:[1]}", "{" + operator + ":{'r.01':1}}", 6);
            Desk.fails("{r:[1]}", "{" + operator + ":{'r.-1':1}}", 6);
            Desk.fails("{r:[1]}", "{" + operator + ":{'r.+1':1}}", 6);
            Desk.fails("{r:[1]}", "{" + operator + ":{'r.1x':1}}", 6);
            Desk.fails("{r:[1]}", "{" + operator + ":{'r.4294967297':1}}", 6);
            Desk.fails("{r:[1]}", "{" + operator + ":{'r.18446744073709551617':1}}", 6);
            Desk.fails("{r:[]}", "{" + operator + ":{'r.1':1}}", 6);
        }
    }

    private static void inc() {
        Desk.done("{}", "{$inc:{a:5}}", 1, "{a:5}");
        Desk.done("{}", "{$inc:{a:5L}}", 1, "{a:5L}");
        Desk.done("{}", "{$inc:{a:0}}", 1, "{a:0}");
        Desk.done("{a:1}", "{$inc:{a:5}}", 1, "{a:6}");
        Desk.done("{a:1}", "{$inc:{a:-5}}", 1, "{a:-4}");
        Desk.done("{a:1}", "{$inc:{a:0}}", 0, "{a:1}");
        Desk.done("{a:1}", "{$inc:{a:0L}}", 1, "{a:1L}");
        Desk.done("{a:1L}", "{$inc:{a:0}}", 0, "{a:1L}");
        Desk.done("{a:1L}", "{$inc:{a:0L}}", 0, "{a:1L}");
        Desk.done("{a:1L,b:2}", "{$inc:{a:1}}", 1, "{a:2L,b:2}");
        Desk.done("{a:1,b:2}", "{$inc:{a:1L}}", 1, "{a:2L,b:2}");
        Desk.done("{a:2147483647,b:2}", "{$inc:{a:1}}", 1, "{a:2147483648L,b:2}");
        Desk.done("{a:2147483646}", "{$inc:{a:1}}", 1, "{a:2147483647}");
        Desk.done("{a:-2147483648}", "{$inc:{a:-1}}", 1, "{a:-2147483649L}");
        Desk.done("{a:-2147483648}", "{$inc:{a:-2147483648}}", 1, "{a:-4294967296L}");
        Desk.done("{a:-1}", "{$inc:{a:1}}", 1, "{a:0}");
        Desk.done("{a:-1}", "{$inc:{a:4294967296L}}", 1, "{a:4294967295L}");
        Desk.done("{a:9223372036854775806L}", "{$inc:{a:1}}", 1, "{a:9223372036854775807L}");
        Desk.fails("{a:9223372036854775807L}", "{$inc:{a:1}}", 8);
        Desk.fails("{a:1}", "{$inc:{a:9223372036854775807L}}", 8);
        Desk.fails("{a:-9223372036854775808L}", "{$inc:{a:-1}}", 8);
        Desk.done("{a:-9223372036854775808L}", "{$inc:{a:9223372036854775807L}}", 1, "{a:-1L}");
        Desk.done("{r:[1,2]}", "{$inc:{'r.1':5,'r.2':7}}", 2, "{r:[1,7,7]}");
        for (String value : new String[] {"'1'", "null", "true", "{}", "[]", "[1]"}) {
            Desk.fails("{a:" + value + "}", "{$inc:{a:1}}", 7);
        }
    }

    private static void push() {
        Desk.done("{}", "{$push:{r:1}}", 1, "{r:[1]}");
        Desk.done("{r:[]}", "{$push:{r:'x'}}", 1, "{r:['x']}");
        Desk.done("{r:[1],s:1}", "{$push:{r:1}}", 1, "{r:[1,1],s:1}");
        Desk.done("{r:[1]}", "{$push:{r:[2,3]}}", 1, "{r:[1,[2,3]]}");
        Desk.done("{r:[1]}", "{$push:{r:{a:null}}}", 1, "{r:[1,{a:null}]}");
        Desk.done("{r:[1,[2]]}", "{$push:{'r.1':3,'r.2':4}}", 2, "{r:[1,[2,3],[4]]}");
        Desk.done("{r:[0,1,2,3,4,5,6,7,8,9]}", "{$push:{r:10}}", 1, "{r:[0,1,2,3,4,5,6,7,8,9,10]}");
        for (String value : new String[] {"'1'", "null", "true", "{}", "1", "1L", "{'0':1}"}) {
            Desk.fails("{a:" + value + "}", "{$push:{a:1}}", 7);
            Desk.fails("{a:" + value + "}", "{$addToSet:{a:1}}", 7);
        }
    }

    private static void addToSet() {
        Desk.done("{}", "{$addToSet:{r:1}}", 1, "{r:[1]}");
        Desk.done("{r:[]}", "{$addToSet:{r:1}}", 1, "{r:[1]}");
        Desk.done("{r:[1]}", "{$addToSet:{r:1}}", 0, "{r:[1]}");
        Desk.done("{r:[1]}", "{$addToSet:{r:1L}}", 0, "{r:[1]}");
        Desk.done("{r:[1L]}", "{$addToSet:{r:1}}", 0, "{r:[1L]}");
        Desk.done("{r:[-1]}", "{$addToSet:{r:4294967295L}}", 1, "{r:[-1,4294967295L]}");
        Desk.done("{r:[2,3]}", "{$addToSet:{r:4}}", 1, "{r:[2,3,4]}");
        Desk.done("{r:[null]}", "{$addToSet:{r:null}}", 0, "{r:[null]}");
        Desk.done("{r:[true]}", "{$addToSet:{r:true}}", 0, "{r:[true]}");
        Desk.done("{r:[true]}", "{$addToSet:{r:false}}", 1, "{r:[true,false]}");
        Desk.done("{r:[true]}", "{$addToSet:{r:1}}", 1, "{r:[true,1]}");
        Desk.done("{r:['a']}", "{$addToSet:{r:'a'}}", 0, "{r:['a']}");
        Desk.done("{r:['a']}", "{$addToSet:{r:'ab'}}", 1, "{r:['a','ab']}");
        Desk.done("{r:['a\u0000b']}", "{$addToSet:{r:'a\u0000c'}}", 1, "{r:['a\u0000b','a\u0000c']}");
        // The number's bytes are those of the text.
        Desk.done("{r:['abc']}", "{$addToSet:{r:27974191445704708L}}", 1, "{r:['abc',27974191445704708L]}");
        Desk.done("{r:[27974191445704708L]}", "{$addToSet:{r:'abc'}}", 1, "{r:[27974191445704708L,'abc']}");
        Desk.done("{r:[{a:1,b:2}]}", "{$addToSet:{r:{a:1L,b:2}}}", 0, "{r:[{a:1,b:2}]}");
        Desk.done("{r:[{a:1,b:2}]}", "{$addToSet:{r:{b:2,a:1}}}", 1, "{r:[{a:1,b:2},{b:2,a:1}]}");
        Desk.done("{r:[{a:1,b:2}]}", "{$addToSet:{r:{a:1}}}", 1, "{r:[{a:1,b:2},{a:1}]}");
        Desk.done("{r:[{a:1}]}", "{$addToSet:{r:{a:1,b:2}}}", 1, "{r:[{a:1},{a:1,b:2}]}");
        Desk.done("{r:[{a:1}]}", "{$addToSet:{r:{b:1}}}", 1, "{r:[{a:1},{b:1}]}");
        Desk.done("{r:[{a:1}]}", "{$addToSet:{r:{a:null}}}", 1, "{r:[{a:1},{a:null}]}");
        Desk.done("{r:[[1,2]]}", "{$addToSet:{r:[1L,2L]}}", 0, "{r:[[1,2]]}");
        Desk.done("{r:[[1,2]]}", "{$addToSet:{r:[2,1]}}", 1, "{r:[[1,2],[2,1]]}");
        Desk.done("{r:[[]]}", "{$addToSet:{r:{}}}", 1, "{r:[[],{}]}");
        Desk.done("{r:[[1]]}", "{$addToSet:{r:{'0':1}}}", 1, "{r:[[1],{'0':1}]}");
        Desk.done("{r:[{x:[{y:1}]}]}", "{$addToSet:{r:{x:[{y:1L}]}}}", 0, "{r:[{x:[{y:1}]}]}");
    }

    private static void unset() {
        Desk.done("{a:1,b:'x',c:3}", "{$unset:{b:1}}", 1, "{a:1,c:3}");
        Desk.done("{a:1}", "{$unset:{a:null}}", 1, "{}");
        Desk.done("{a:1}", "{$unset:{b:1,'c.d':1}}", 0, "{a:1}");
        Desk.done("{a:{b:{c:1,d:2}}}", "{$unset:{'a.b.c':1}}", 1, "{a:{b:{d:2}}}");
        Desk.done("{a:1}", "{$unset:{'a.b':1}}", 0, "{a:1}");
        Desk.done("{r:[1,'x',3]}", "{$unset:{'r.1':1}}", 1, "{r:[1,null,3]}");
        Desk.done("{r:[1,null,3]}", "{$unset:{'r.1':1}}", 0, "{r:[1,null,3]}");
        Desk.done("{r:[1]}", "{$unset:{'r.1':1,'r.x':1,'r.00':1,'r.99999999999':1}}", 0, "{r:[1]}");
        Desk.done("{r:[{a:1},[1]]}", "{$unset:{'r.0.a':1,'r.1.0':1}}", 2, "{r:[{},[null]]}");
        Desk.done("{r:[1]}", "{$unset:{r:1}}", 1, "{}");
        Desk.done("{a:{}}", "{$unset:{'a.b.c':1}}", 0, "{a:{}}");
    }

    private static void pull() {
        Desk.done("{r:[1,2,1,3]}", "{$pull:{r:1}}", 1, "{r:[2,3]}");
        Desk.done("{r:[1,2,1L,3],s:1}", "{$pull:{r:1}}", 1, "{r:[2,3],s:1}");
        Desk.done("{r:[1,1]}", "{$pull:{r:1L}}", 1, "{r:[]}");
        Desk.done("{r:[1,1]}", "{$pull:{r:2}}", 0, "{r:[1,1]}");
        Desk.done("{r:[]}", "{$pull:{r:2}}", 0, "{r:[]}");
        Desk.done("{}", "{$pull:{r:2,'a.b':1}}", 0, "{}");
        Desk.done("{a:1,r:[1]}", "{$pull:{'a.b':2,'r.1':1,'r.x':1,'r.0.x':1}}", 0, "{a:1,r:[1]}");
        Desk.done("{d:{r:[{a:1},{a:2}]}}", "{$pull:{'d.r':{a:2L}}}", 1, "{d:{r:[{a:1}]}}");
        Desk.done("{r:[[1,2],[1]]}", "{$pull:{'r.0':2,'r.1':1}}", 2, "{r:[[1],[]]}");
        Desk.done("{r:[0,1,'x',3,4,5,6,7,8,9,10,'x',12,{a:'y'}]}", "{$pull:{r:'x'}}", 1,
            "{r:[0,1,3,4,5,6,7,8,9,10,12,{a:'y'}]}");
        Desk.done("{r:['x',0,1,2,3,4,5,6,7,8,9]}", "{$pull:{r:'x'}}", 1, "{r:[0,1,2,3,4,5,6,7,8,9]}");
        Desk.done("{r:[[1],1]}", "{$pull:{r:[1]}}", 1, "{r:[1]}");
        for (String value : new String[] {"'1'", "null", "true", "{}", "1", "1L"}) {
            Desk.fails("{a:" + value + "}", "{$pull:{a:1}}", 7);
        }
    }

    private static void longestPath() {
        String path = "'a.b.c.d.e.f.g.h'";
        String ahead = "{z:[1],a:{b:{c:{d:{e:{f:{g:{h:";
        String behind = ",i:1},j:2}}}}}},y:3}";
        Desk.done(ahead + "[1,2]" + behind, "{$push:{" + path + ":3}}", 1, ahead + "[1,2,3]" + behind);
        Desk.done(ahead + "[1,2]" + behind, "{$addToSet:{" + path + ":3}}", 1, ahead + "[1,2,3]" + behind);
        Desk.done(ahead + "[1,2]" + behind, "{$addToSet:{" + path + ":2}}", 0, ahead + "[1,2]" + behind);
        Desk.done(ahead + "[1,2]" + behind, "{$pull:{" + path + ":1}}", 1, ahead + "[2]" + behind);
        Desk.done(ahead + "7" + behind, "{$inc:{" + path + ":1L}}", 1, ahead + "8L" + behind);
        Desk.done(ahead + "7" + behind, "{$set:{" + path + ":'x'}}", 1, ahead + "'x'" + behind);
        Desk.done(ahead + "7" + behind, "{$unset:{" + path + ":1}}", 1,
            ahead.substring(0, ahead.length() - 2) + behind.substring(1));
        Desk.done("{}", "{$push:{" + path + ":1}}", 1, "{a:{b:{c:{d:{e:{f:{g:{h:[1]}}}}}}}}");
    }

    private static void allOrNothing() {
        String before = "{a:1,t:'x',r:[1]}";
        Desk.fails(before, "{$set:{b:1,'c.d':2},$unset:{a:1},$push:{r:1},$inc:{t:1}}", 7);
        Desk.fails(before, "{$set:{b:1,'t.x':2},$push:{a:1}}", 6);
        Desk.fails(before, "{$push:{a:1},$set:{'t.x':2}}", 7);
        Desk.done(before, "{$set:{b:1,'c.d':2},$unset:{a:1},$push:{r:2},$inc:{n:1}}", 5,
            "{t:'x',r:[1,2],b:1,c:{d:2},n:1}");
        Desk.done(before, "{$unset:{a:1,q:1},$set:{t:'x',b:7}}", 2, "{t:'x',r:[1],b:7}");
        Desk.done("{}", "{$set:{'a.b':[]},$push:{'a.c':1},$addToSet:{'a.d':1},$inc:{'a.e':1}}", 4,
            "{a:{b:[],c:[1],d:[1],e:1}}");
    }

    private static void tooLarge() {
        String before = "{t:'" + Docs.times("x", 1000) + "'}";
        Desk.done(before, "{$set:{u:'" + Docs.times("y", 2000 - 13 - 1000 - 8) + "'}}", 1,
            "{t:'" + Docs.times("x", 1000) + "',u:'" + Docs.times("y", 2000 - 13 - 1000 - 8) + "'}");
        Desk.fails(before, "{$set:{u:'" + Docs.times("y", 2000 - 13 - 1000 - 7) + "'}}", 9);
        Desk.fails(before, "{$set:{u:'" + Docs.times("y", 1000) + "','t.x':1}}", 6);
        // More than 2,000 bytes on the way only.
        Desk.done(before, "{$set:{u:'" + Docs.times("y", 1500) + "'},$unset:{t:1}}", 2,
            "{u:'" + Docs.times("y", 1500) + "'}");
        Desk.done(before, "{$set:{u:'" + Docs.times("y", 1500) + "'},$pull:{q:1},$inc:{n:1},$unset:{'w.v':1,t:1}}", 3,
            "{u:'" + Docs.times("y", 1500) + "',n:1}");
    }

    /** The paths that make the most of their bytes: the draft gets nearly 10,000 bytes, and is gone through to its end. */
    private static void widestDraft() {
        StringBuilder paths = new StringBuilder();
        int count = 0;
        for (char step = 1; count < 115; step++) {
            if (step != '.' && step != '\'' && step != 't') {
                paths.append(count == 0 ? "'" : ",'").append(step).append(".a.a.a.a.a.a.a':null");
                count++;
            }
        }
        String before = "{t:'" + Docs.times("x", 1987) + "'}";
        Desk.fails(before, "{$push:{" + paths + "}}", 9);
        Desk.fails(before, "{$push:{" + paths + "},$unset:{t:1}}", 9);
        Desk.fails(before, "{$push:{" + paths + "},$inc:{t:1}}", 7);
        Desk.fails(before, "{$push:{" + paths + "},$set:{'t.x':1}}", 6);
    }

    private static void tooDeep() {
        Desk.done(Docs.deep(9), "{$set:{'a.a.a.a.a.a.a.a':" + Docs.deep(8) + "}}", 1, Docs.deep(16));
        Desk.fails(Docs.deep(9), "{$set:{'a.a.a.a.a.a.a.a':" + Docs.deep(9) + "}}", 9);
        Desk.fails("{}", "{$push:{'a.a.a.a.a.a.a.a':" + Docs.deep(14) + "}}", 9);
        Desk.done("{}", "{$set:{a:" + Docs.deep(14) + "}}", 1, Docs.deep(15));
        Desk.done(Docs.deep(16), "{$set:{b:1}}", 1, Docs.deep(16).substring(0, Docs.deep(16).length() - 1) + ",b:1}");
        Desk.done("{}", "{$push:{'a.a.a.a.a.a':" + "[[[[[[[[]]]]]]]]" + "}}", 1,
            Docs.times("{a:", 6) + "[[[[[[[[[]]]]]]]]]" + Docs.times("}", 6));
        Desk.fails("{}", "{$push:{'a.a.a.a.a.a.a':" + "[[[[[[[[[]]]]]]]]]" + "}}", 9);
    }
}
