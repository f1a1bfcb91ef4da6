/** Terms: what a change is, and its faults 1 to 5. */
public final class TermsChangeTest {
    private static final String PLACE = "Terms, CHANGE";
    private static final String[] OPERATORS = {"$set", "$unset", "$inc", "$push", "$pull", "$addToSet"};
    private static final String[] NO_DOCUMENTS = {"1", "0L", "'x'", "''", "null", "true", "false", "[]", "[1]", "[{a:1}]"};

    public static void main(String[] args) {
        names();
        values();
        paths();
        arguments();
        clashes();
        clashesFarAhead();
        stepsAsTheyAreWritten();
        firstFault();
        noOperators();
        Check.end();
    }

    private static void names() {
        Check.sentence(PLACE, "1 a name that is none of the six");
        for (String operator : OPERATORS) {
            Desk.isChange("{" + operator + ":{a:1}}", 1);
            String bare = operator.substring(1);
            for (String name : new String[] {bare, operator + "s", operator + " ", " " + operator, "$" + operator,
                operator.substring(0, operator.length() - 1), operator.toUpperCase(), "$" + bare.toUpperCase(),
                operator + ".", operator + "\u0001", "\u00a7" + bare}) {
                Desk.hasFault("{'" + name + "':{}}", 1, 0, -1);
                Desk.hasFault("{'" + name + "':1}", 1, 0, -1);
            }
            for (int i = 0; i < operator.length(); i++) {
                String name = operator.substring(0, i) + (char) (operator.charAt(i) + 1) + operator.substring(i + 1);
                Desk.hasFault("{" + name + ":{a:1}}", 1, 0, -1);
                Desk.hasFault("{" + operator.substring(0, i) + operator.substring(i + 1) + ":{a:1}}", 1, 0, -1);
            }
        }
        for (String name : new String[] {"", "$", "a", "$rename", "$setOnInsert", "$addtoset", "$add", "$pushAll", "$unse",
            "0", "$uns", "$i"}) {
            Desk.hasFault("{'" + name + "':{a:1}}", 1, 0, -1);
            Desk.hasFault("{$set:{a:1},'" + name + "':{b:1}}", 1, 1, -1);
            Desk.hasFault("{$set:{},$unset:{},$inc:{},$push:{},$pull:{},$addToSet:{},'" + name + "':{b:1}}", 1, 6, -1);
        }
    }

    private static void values() {
        Check.sentence(PLACE, "2 a value that is no document (a row is none)");
        for (String value : NO_DOCUMENTS) {
            for (String operator : OPERATORS) {
                Desk.hasFault("{" + operator + ":" + value + "}", 2, 0, -1);
            }
            Desk.hasFault("{$set:{a:1},$pull:" + value + "}", 2, 1, -1);
        }
    }

    private static void paths() {
        Check.sentence(PLACE, "3 a name that is no path");
        for (String operator : OPERATORS) {
            for (String name : new String[] {"", ".", "a.", ".a", "a..b", "a.b.c.d.e.f.g.h.i"}) {
                Desk.hasFault("{" + operator + ":{'" + name + "':1}}", 3, 0, 0);
                Desk.hasFault("{" + operator + ":{z:1,y:1,'" + name + "':1,x:1}}", 3, 0, 2);
            }
        }
        Desk.isChange("{$set:{a:1,'a b':1,'$x':1,'0':1,'00':1,'-1':1,'\u00e9.\u20ac':1}}", 7);
    }

    private static void arguments() {
        Check.sentence(PLACE, "4 an argument of $inc that is no number");
        Desk.isChange("{$inc:{a:1,b:1L,c:-1,d:0,e:-9223372036854775808L,f:2147483647}}", 6);
        for (String value : new String[] {"'1'", "''", "null", "true", "false", "{}", "{a:1}", "[]", "[1]"}) {
            Desk.hasFault("{$inc:{a:" + value + "}}", 4, 0, 0);
            Desk.hasFault("{$set:{},$inc:{a:1,b:1L,c:" + value + ",d:1}}", 4, 1, 2);
            Desk.isChange("{$set:{a:" + value + "},$push:{b:" + value + "},$pull:{c:" + value + "},$unset:{d:" + value
                + "},$addToSet:{e:" + value + "}}", 5);
        }
    }

    private static void clashes() {
        Check.sentence(PLACE, "5 a path that is one of those ahead of it (in all operators), or begins with all steps of one"
            + " of them, or one of them begins with all of its (steps as they are written).");
        for (String first : OPERATORS) {
            for (String second : OPERATORS) {
                if (!first.equals(second)) {
                    Desk.hasFault("{" + first + ":{a:1}," + second + ":{a:1}}", 5, 1, 0);
                    Desk.hasFault("{" + first + ":{'a.b':1}," + second + ":{c:1,'a.b':1}}", 5, 1, 1);
                    Desk.hasFault("{" + first + ":{a:1}," + second + ":{'a.b':1}}", 5, 1, 0);
                    Desk.hasFault("{" + first + ":{'a.b':1}," + second + ":{a:1}}", 5, 1, 0);
                    Desk.isChange("{" + first + ":{'a.b':1}," + second + ":{'a.c':1}}", 2);
                }
            }
            Desk.hasFault("{" + first + ":{a:1,'a.b':1}}", 5, 0, 1);
            Desk.hasFault("{" + first + ":{'a.b':1,a:1}}", 5, 0, 1);
        }
        Desk.hasFault("{$set:{'a.b.c.d.e.f.g':1,'a.b.c.d.e.f.g.h':1}}", 5, 0, 1);
        Desk.hasFault("{$set:{'a.b.c.d.e.f.g.h':1,'a.b.c.d.e.f.g':1}}", 5, 0, 1);
        Desk.hasFault("{$set:{'a.b.c.d.e.f.g.h':1,a:1}}", 5, 0, 1);
        Desk.hasFault("{$set:{a:1,'a.b.c.d.e.f.g.h':1}}", 5, 0, 1);
        Desk.isChange("{$set:{'a.b.c.d.e.f.g.h':1,'a.b.c.d.e.f.g.i':1,'a.b.c.d.e.f.h':1}}", 3);
    }

    private static void clashesFarAhead() {
        Check.sentence(PLACE, "5 a path that is one of those ahead of it (in all operators)");
        Desk.hasFault("{$set:{'a.b':1},$unset:{},$push:{x:1},$pull:{y:1,'a.b.c.d':1}}", 5, 3, 1);
        Desk.hasFault("{$set:{'a.b.c':1},$push:{x:1,y:1},$inc:{z:1},$pull:{w:1,v:1,'a.b':1}}", 5, 3, 2);
        Desk.hasFault("{$set:{q:1,'a.b.c':1,p:1},$addToSet:{x:1,'a.b.c':1}}", 5, 1, 1);
        StringBuilder many = new StringBuilder();
        for (int i = 0; i < 250; i++) {
            many.append("p").append(i).append(":null,");
        }
        Desk.isChange("{$push:{" + many + "p0x:1}}", 251);
        Desk.hasFault("{$push:{" + many + "'p0.x':1}}", 5, 0, 250);
        Desk.hasFault("{$push:{" + many + "},$unset:{p249:1}}", 5, 1, 0);
        Desk.hasFault("{$push:{" + many + "},$unset:{z:1,'p125.x':1}}", 5, 1, 1);
    }

    private static void stepsAsTheyAreWritten() {
        Check.sentence(PLACE, "or one of them begins with all of its (steps as they are written).");
        Desk.isChange("{$set:{a:1,ab:1,'abc.c':1}}", 3);
        Desk.isChange("{$set:{'abc.c':1,ab:1,a:1,b:1}}", 4);
        Desk.isChange("{$set:{'a.b':1,'a.bc':1,'a.c':1}}", 3);
        Desk.isChange("{$set:{'a.bc':1,'a.b':1}}", 2);
        Desk.isChange("{$set:{'a.b':1,'b.a':1,ab:1,ba:1}}", 4);
        Desk.isChange("{$set:{'a.0':1,'a.00':1,'a.01':1,'a.1':1}}", 4);
        Desk.isChange("{$set:{a:1,A:1,'a ':1,' a':1}}", 4);
        Desk.isChange("{$set:{'a.b':1,'ab.b':1,'a-b':1,'a/b':1}}", 4);
        Desk.isChange("{$set:{'b.a':1,a:1}}", 2);
        Desk.isChange("{$set:{a:1,'b.a':1,'b.c.a':1}}", 3);
    }

    private static void firstFault() {
        Check.sentence(PLACE, "Its FAULTS, the first one, element by element, path by path, of several there the first of these");
        Desk.hasFault("{x:1,$set:1}", 1, 0, -1);
        Desk.hasFault("{x:[],$set:{'':1}}", 1, 0, -1);
        Desk.hasFault("{$set:1,x:{}}", 2, 0, -1);
        Desk.hasFault("{$set:{'':1},x:{}}", 3, 0, 0);
        Desk.hasFault("{$set:{'':1},$inc:1}", 3, 0, 0);
        Desk.hasFault("{$inc:{a:'x'},x:{}}", 4, 0, 0);
        Desk.hasFault("{$inc:{a:'x'},$set:{'':1}}", 4, 0, 0);
        Desk.hasFault("{$set:{a:1,'a.b':1},$inc:{c:'x'}}", 5, 0, 1);
        Desk.hasFault("{$set:{a:1,'a.b':1},x:1}", 5, 0, 1);
        Desk.hasFault("{$inc:{'':'x'}}", 3, 0, 0);
        Desk.hasFault("{$inc:{a:1,'a.':'x'}}", 3, 0, 1);
        Desk.hasFault("{$set:{a:1},$inc:{a:'x'}}", 4, 1, 0);
        Desk.hasFault("{$set:{a:1},$inc:{'a.b':null}}", 4, 1, 0);
        Desk.hasFault("{$set:{a:1},$inc:{'a..b':null}}", 3, 1, 0);
        Desk.hasFault("{$set:{a:1},$inc:{a:1,b:'x'}}", 5, 1, 0);
        Desk.hasFault("{$set:{a:1},$inc:{b:'x',a:1}}", 4, 1, 0);
        Desk.hasFault("{$inc:{a:'x','':1}}", 4, 0, 0);
        Desk.hasFault("{$set:{a:1,'a.b':1,'':1}}", 5, 0, 1);
        Desk.hasFault("{$set:{a:1,'a.b':1,'a.c':1}}", 5, 0, 1);
        Desk.hasFault("{$set:{'a.b':1,'a.c':1,a:1}}", 5, 0, 2);
    }

    private static void noOperators() {
        Check.sentence(PLACE, "A change may have no operators, an operator no paths.");
        Desk.isChange("{}", 0);
        for (String operator : OPERATORS) {
            Desk.isChange("{" + operator + ":{}}", 0);
            Desk.done("{a:1}", "{" + operator + ":{}}", 0, "{a:1}");
        }
        Desk.isChange("{$set:{},$unset:{},$inc:{},$push:{},$pull:{},$addToSet:{}}", 0);
        Desk.isChange("{$set:{},$unset:{a:1},$inc:{},$push:{b:1}}", 2);
        Desk.done("{a:1}", "{}", 0, "{a:1}");
        Desk.done("{a:1}", "{$set:{},$unset:{},$inc:{},$push:{},$pull:{},$addToSet:{}}", 0, "{a:1}");
        Desk.done("{a:1}", "{$addToSet:{},$set:{b:2},$pull:{}}", 1, "{a:1,b:2}");
    }
}
