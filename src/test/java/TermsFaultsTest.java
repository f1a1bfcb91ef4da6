/** Terms: which fault ends a change, fault 9, what stays at a fault, and when a path changes something. */
public final class TermsFaultsTest {
    private static final String PLACE = "Terms, DOING";

    public static void main(String[] args) {
        firstPath();
        sixAheadOfSevenAndEight();
        exactlyTwoThousand();
        largerOnTheWay();
        widestDraft();
        sixteenDeep();
        nineComesLast();
        documentStays();
        toldWithPath();
        changesSomething();
        changesNothing();
        Check.end();
    }

    private static void done(String before, String change, int answer, int operator, int path) {
        Desk desk = new Desk();
        desk.read(0, before);
        desk.change(change);
        Check.due(change + " to " + before, desk.apply(0), answer);
        desk.tells(change + " to " + before, operator, path);
        desk.holds(change + " to " + before, 0, before);
    }

    private static void firstPath() {
        Check.sentence(PLACE, "The first path with a fault ends it");
        String before = "{s:1,t:'x',n:9223372036854775807L,r:[]}";
        String[][] faults = {{"$set", "'s.x':1", "-14"}, {"$push", "t:1", "-13"}, {"$inc", "n:1", "-12"}};
        for (String[] first : faults) {
            for (String[] second : faults) {
                if (first != second) {
                    String change = "{$unset:{q:1}," + first[0] + ":{y:1," + first[1] + ",z:1},"
                        + second[0] + ":{v:1,w:1," + second[1] + "}}";
                    done(before, change, Integer.parseInt(first[2]), 1, 1);
                }
            }
        }
        done(before, "{$push:{a:1,'r.1':1,t:1}}", -14, 0, 1);
        done(before, "{$push:{a:1,t:1,'r.1':1}}", -13, 0, 1);
        done(before, "{$inc:{n:1,t:1}}", -12, 0, 0);
        done(before, "{$inc:{t:1,n:1}}", -13, 0, 0);
        done(before, "{$pull:{t:1},$inc:{n:1}}", -13, 0, 0);
        done(before, "{$inc:{n:1},$pull:{t:1}}", -12, 0, 0);
    }

    private static void sixAheadOfSevenAndEight() {
        Check.sentence(PLACE, "(of one path 6 ahead of 7 and 8)");
        for (String value : new String[] {"'t'", "null", "true", "1", "9223372036854775807L"}) {
            for (String operator : new String[] {"$inc", "$push", "$addToSet"}) {
                done("{a:" + value + "}", "{" + operator + ":{'a.b':1}}", -14, 0, 0);
                done("{r:[" + value + "]}", "{" + operator + ":{'r.2':1}}", -14, 0, 0);
                done("{r:[" + value + "]}", "{" + operator + ":{'r.00':1}}", -14, 0, 0);
            }
        }
    }

    /** Each operator brings a document to 2,000 bytes, and to one byte more. */
    private static void exactlyTwoThousand() {
        Check.sentence(PLACE, "FAULT 9 when the document would have, as it is then, more than 2,000 bytes");
        grows("", "{$set:{a:1}}", ",a:1", 7);
        grows("", "{$set:{a:'yz'}}", ",a:'yz'", 10);
        grows(",a:null", "{$set:{a:1}}", ",a:1", 4);
        grows("", "{$set:{'a.b.c':1}}", ",a:{b:{c:1}}", 23);
        grows("", "{$inc:{a:1}}", ",a:1", 7);
        grows(",a:1", "{$inc:{a:1L}}", ",a:2L", 4);
        grows(",a:2147483647", "{$inc:{a:1}}", ",a:2147483648L", 4);
        grows("", "{$push:{r:1}}", ",r:[1]", 15);
        grows(",r:[]", "{$push:{r:1}}", ",r:[1]", 7);
        grows(",r:[0,1,2,3,4,5,6,7,8,9]", "{$push:{r:null}}", ",r:[0,1,2,3,4,5,6,7,8,9,null]", 4);
        grows("", "{$addToSet:{r:1}}", ",r:[1]", 15);
        grows(",r:[2]", "{$addToSet:{r:1}}", ",r:[2,1]", 7);
        grows(",r:[]", "{$set:{'r.0.a':1}}", ",r:[{a:1}]", 15);
    }

    /** A change by which a document with these elements behind a long text grows by so many bytes. */
    private static void grows(String before, String change, String after, int growth) {
        int others = Docs.of("{" + (before.isEmpty() ? "" : before.substring(1)) + "}").length - 5;
        for (int bytes = 1998; bytes <= 2003; bytes++) {
            String text = "{" + Docs.textOf("t", bytes - growth - others - 5);
            if (bytes <= 2000) {
                Desk.done(text + before + "}", change, 1, text + after + "}");
            } else {
                Desk.fails(text + before + "}", change, 9);
            }
        }
    }

    private static void largerOnTheWay() {
        Check.sentence(PLACE, "When all paths are done: FAULT 9 when the document would have, as it is then, more than 2,000 bytes");
        String before = Docs.large("t", 1500);
        String text = Docs.textOf("u", 1500);
        Desk.done(before, "{$set:{" + text + "},$unset:{t:1}}", 2, "{" + text + "}");
        Desk.done(before, "{$unset:{t:1},$set:{" + text + "}}", 2, "{" + text + "}");
        Desk.done(before, "{$set:{" + text + ",t:1}}", 2, "{t:1," + text + "}");
        Desk.done(before, "{$set:{" + text + "},$pull:{q:1},$inc:{n:1},$unset:{'w.v':1,t:1}}", 3, "{" + text + ",n:1}");
        Desk.fails(before, "{$set:{" + text + "},$unset:{v:1}}", 9);
        String row = "{r:" + Docs.row("'" + Docs.times("y", 90) + "'", 15) + "}";
        Desk.done(row, "{$push:{s:'" + Docs.times("z", 1000) + "'},$pull:{r:'" + Docs.times("y", 90) + "'}}", 2,
            "{r:[],s:['" + Docs.times("z", 1000) + "']}");
        Desk.done(row, "{$push:{s:'" + Docs.times("z", 900) + "'},$unset:{'r.1':1,'r.2':1,'r.3':1,'r.4':1,'r.5':1}}", 6,
            "{r:['" + Docs.times("y", 90) + "'," + Docs.times("null,", 5) + Docs.times("'" + Docs.times("y", 90) + "',", 9)
                + "],s:['" + Docs.times("z", 900) + "']}");
        // A document of 2,000 bytes on which nothing is done has no fault.
        Desk.done(Docs.large("t", 2000), "{$unset:{q:1},$pull:{p:1}}", 0, Docs.large("t", 2000));
    }

    /** Paths that make the most of their bytes: the draft gets nearly five times as long as a document may be. */
    private static void widestDraft() {
        Check.sentence(PLACE, "When all paths are done: FAULT 9 when the document would have, as it is then, more than 2,000 bytes");
        StringBuilder paths = new StringBuilder();
        int count = 0;
        for (char step = 1; count < 115; step++) {
            if (step != '.' && step != '\'' && step != 't') {
                paths.append(count == 0 ? "'" : ",'").append(step).append(".a.a.a.a.a.a.a':null");
                count++;
            }
        }
        String before = Docs.large("t", 2000);
        Desk.fails(before, "{$push:{" + paths + "}}", 9);
        Desk.fails(before, "{$push:{" + paths + "},$unset:{t:1}}", 9);
        Desk.fails(before, "{$push:{" + paths + "},$inc:{t:1}}", 7);
        Desk.fails(before, "{$push:{" + paths + "},$set:{'t.x':1}}", 6);
    }

    private static void sixteenDeep() {
        Check.sentence(PLACE, "or would be more than 16 deep.");
        String path = "'a.a.a.a.a.a.a.a'";
        for (int depth = 1; depth <= 14; depth++) {
            deep("{}", "{$set:{" + path + ":" + Docs.deep(depth) + "}}", 8 + depth, Docs.deep(8 + depth));
            deep(Docs.deep(9), "{$set:{" + path + ":" + Docs.deep(depth) + "}}", 8 + depth, Docs.deep(8 + depth));
            deep("{}", "{$set:{" + path + ":" + Docs.deepRow(depth) + "}}", 8 + depth,
                Docs.times("{a:", 8) + Docs.deepRow(depth) + Docs.times("}", 8));
            for (String operator : new String[] {"$push", "$addToSet"}) {
                deep("{}", "{" + operator + ":{" + path + ":" + Docs.deepRow(depth) + "}}", 9 + depth,
                    Docs.times("{a:", 8) + Docs.deepRow(depth + 1) + Docs.times("}", 8));
                deep("{r:[[[[1]]]]}", "{" + operator + ":{'r.0.0.0':" + Docs.deepRow(depth) + "}}", 5 + depth,
                    "{r:[[[[1," + Docs.deepRow(depth) + "]]]]}");
            }
            deep("{b:[]}", "{$set:{'b.0.a.a.a.a':" + Docs.deep(depth) + "}}", 6 + depth,
                "{b:[" + Docs.deep(4 + depth) + "]}");
        }
        String sixteen = Docs.deep(16);
        Desk.done(sixteen, "{$set:{b:1}}", 1, sixteen.substring(0, sixteen.length() - 1) + ",b:1}");
        Desk.done(sixteen, "{$set:{b:{}},$push:{c:1},$inc:{'d.e':1}}", 3,
            sixteen.substring(0, sixteen.length() - 1) + ",b:{},c:[1],d:{e:1}}");
        Desk.fails("{a:1}", "{$set:{b:1,'c.c.c.c.c.c.c.c':" + Docs.deep(9) + ",d:1}}", 9);
    }

    private static void deep(String before, String change, int depth, String after) {
        if (depth <= 16) {
            Desk.done(before, change, before.equals(after) ? 0 : 1, after);
        } else {
            Desk.fails(before, change, 9);
        }
    }

    private static void nineComesLast() {
        Check.sentence(PLACE, "When all paths are done: FAULT 9");
        String before = "{t:'" + Docs.times("x", 1000) + "',n:9223372036854775807L}";
        String text = "'" + Docs.times("y", 1000) + "'";
        Desk.fails(before, "{$set:{u:" + text + ",'t.x':1}}", 6);
        Desk.fails(before, "{$set:{u:" + text + "},$push:{t:1}}", 7);
        Desk.fails(before, "{$set:{u:" + text + "},$inc:{n:1}}", 8);
        Desk.fails(before, "{$set:{u:" + text + "},$inc:{m:1}}", 9);
        String deep = "'a.a.a.a.a.a.a.a':" + Docs.deep(9);
        Desk.fails(before, "{$set:{" + deep + ",'t.x':1}}", 6);
        Desk.fails(before, "{$set:{" + deep + "},$push:{t:1}}", 7);
        Desk.fails(before, "{$set:{" + deep + "},$inc:{n:1}}", 8);
        Desk.fails(before, "{$set:{" + deep + "},$inc:{m:1}}", 9);
    }

    private static void documentStays() {
        Check.sentence(PLACE, "At a fault the document stays as it was before the change");
        String before = "{a:1,t:'x',r:[1,2],d:{e:1},n:9223372036854775807L}";
        String work = "$unset:{a:1,'r.0':1},$pull:{s:1},$addToSet:{w:3},";
        Desk.fails(before, "{" + work + "$set:{b:1,'c.d':2,d:null,'t.x':1},$push:{v:3},$inc:{m:1}}", 6);
        Desk.fails(before, "{" + work + "$set:{b:1,'c.d':2,d:null},$push:{v:3,t:1}}", 7);
        Desk.fails(before, "{" + work + "$set:{b:1,'c.d':2,d:null},$inc:{m:1,n:1}}", 8);
        Desk.fails(before, "{" + work + "$set:{b:1,'c.d':2,d:" + Docs.deep(14) + ",'f.f.f':" + Docs.deep(14) + "}}", 9);
        Desk.fails("{" + Docs.textOf("u", 300) + "," + before.substring(1),
            "{" + work + "$set:{b:1,t:'" + Docs.times("x", 1700) + "'}}", 9);
    }

    private static void toldWithPath() {
        Check.sentence(PLACE, "faults 6 to 8 are told with their path, 9 with none.");
        String before = "{t:'x',n:9223372036854775807L}";
        done(before, "{$unset:{},$set:{a:1,'t.x':1}}", -14, 1, 1);
        done(before, "{$set:{'t.x':1}}", -14, 0, 0);
        done(before, "{$set:{a:1},$unset:{b:1},$pull:{c:1,d:1,e:1,t:1}}", -13, 2, 3);
        done(before, "{$set:{a:1},$unset:{t:1},$inc:{b:1,c:1,n:1}}", -12, 2, 2);
        done(before, "{$set:{a:1,'b.b.b':" + Docs.deep(14) + "}}", -11, -1, -1);
        done(Docs.large("t", 1996), "{$unset:{q:1},$inc:{a:1}}", -11, -1, -1);
    }

    private static void changesSomething() {
        Check.sentence(PLACE, "A path CHANGES something when the document has other bytes behind it than ahead of it.");
        Desk.done("{a:1}", "{$set:{a:1L}}", 1, "{a:1L}");
        Desk.done("{a:1L}", "{$set:{a:1}}", 1, "{a:1}");
        Desk.done("{a:[]}", "{$set:{a:{}}}", 1, "{a:{}}");
        Desk.done("{a:{b:1}}", "{$set:{a:{b:1L}}}", 1, "{a:{b:1L}}");
        Desk.done("{a:{b:1,c:2}}", "{$set:{a:{c:2,b:1}}}", 1, "{a:{c:2,b:1}}");
        Desk.done("{a:1}", "{$inc:{a:0L}}", 1, "{a:1L}");
        Desk.done("{}", "{$inc:{a:0}}", 1, "{a:0}");
        Desk.done("{}", "{$set:{a:null}}", 1, "{a:null}");
        Desk.done("{a:null}", "{$unset:{a:1}}", 1, "{}");
        Desk.done("{r:[1,1,1]}", "{$pull:{r:1}}", 1, "{r:[]}");
        Desk.done("{}", "{$addToSet:{'a.b.c':1}}", 1, "{a:{b:{c:[1]}}}");
        Desk.done("{a:1,t:'x',r:[1]}", "{$set:{b:1,'c.d':2},$unset:{a:1},$push:{r:2},$inc:{n:1}}", 5,
            "{t:'x',r:[1,2],b:1,c:{d:2},n:1}");
        // Bytes that go and come as many at the same place.
        Desk.done("{a:1,b:2}", "{$set:{a:2,b:1}}", 2, "{a:2,b:1}");
        Desk.done("{a:'x'}", "{$set:{a:'y'}}", 1, "{a:'y'}");
        // The first byte alone, the last byte alone.
        Desk.done("{a:1}", "{$set:{a:257}}", 1, "{a:257}");
        Desk.done("{a:1L}", "{$set:{a:72057594037927937L}}", 1, "{a:72057594037927937L}");
        Desk.done("{a:-1}", "{$set:{a:16777215}}", 1, "{a:16777215}");
    }

    private static void changesNothing() {
        Check.sentence(PLACE, "A path CHANGES something when the document has other bytes behind it than ahead of it.");
        Desk.done("{a:1,b:1L,t:'x',d:{e:1},r:[1]}", "{$set:{a:1,b:1L,t:'x',d:{e:1},r:[1]}}", 0, "{a:1,b:1L,t:'x',d:{e:1},r:[1]}");
        Desk.done("{a:1,b:1L}", "{$inc:{a:0,b:0}}", 0, "{a:1,b:1L}");
        Desk.done("{b:1L}", "{$inc:{b:0L}}", 0, "{b:1L}");
        Desk.done("{r:[1]}", "{$addToSet:{r:1L}}", 0, "{r:[1]}");
        Desk.done("{r:[1]}", "{$pull:{r:2,s:1}}", 0, "{r:[1]}");
        Desk.done("{r:[null]}", "{$unset:{'r.0':1,'r.1':1,s:1}}", 0, "{r:[null]}");
        Desk.done("{a:1,r:[1,null]}", "{$unset:{q:1,'r.0':1,'r.1':1},$set:{a:1,b:7},$inc:{c:0}}", 3,
            "{a:1,r:[null,null],b:7,c:0}");
    }
}
