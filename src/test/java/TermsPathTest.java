/** Terms: what a path is, and what its steps meet. */
public final class TermsPathTest {
    private static final String PLACE = "Terms, PATH";

    private static final String[] NO_NUMBERS = {"00", "01", "010", "-0", "-1", "+1", " 1", "1 ", "1x", "x1", "x", "0x1",
        "1e0", "1,0", "\u0661", "\uff11", "$", "/", ":", "1:", "1/"};
    private static final String[] GREAT_NUMBERS = {"2147483647", "2147483648", "4294967295", "4294967296", "4294967297",
        "4294967298", "9223372036854775807", "9223372036854775808", "18446744073709551616", "18446744073709551617",
        "18446744073709551618", "1" + Docs.times("0", 40), "1" + Docs.times("0", 39) + "1", Docs.times("9", 1800)};

    public static void main(String[] args) {
        stepCounts();
        emptySteps();
        longSteps();
        numbers();
        asManyDigitsAsOneLikes();
        noNumbers();
        digitsInDocuments();
        meets();
        Check.end();
    }

    private static String path(int steps) {
        return "'a" + Docs.times(".a", steps - 1) + "'";
    }

    private static void stepCounts() {
        Check.sentence(PLACE, "A PATH is names with a point between two of them: 1 to 8 STEPS, none of them empty.");
        for (int steps = 1; steps <= 12; steps++) {
            for (String operator : new String[] {"$set", "$unset", "$inc", "$push", "$pull", "$addToSet"}) {
                String change = "{" + operator + ":{" + path(steps) + ":1}}";
                if (steps <= 8) {
                    Desk.isChange(change, 1);
                } else {
                    Desk.hasFault(change, 3, 0, 0);
                }
            }
        }
        Desk.hasFault("{$set:{" + path(980) + ":1}}", 3, 0, 0);
        Desk.done(Docs.deep(8), "{$set:{" + path(8) + ":1}}", 1, Docs.deep(9).replace("{}", "1"));
        Desk.done(Docs.deep(9), "{$unset:{" + path(8) + ":1}}", 1, Docs.deep(8));
    }

    private static void emptySteps() {
        Check.sentence(PLACE, "A PATH is names with a point between two of them: 1 to 8 STEPS, none of them empty.");
        for (String path : new String[] {"", ".", "..", "a.", ".a", "a..b", ".a.", "a.b.", ".a.b", "a.b..c", "a...b",
            "a.b.c.d.e.f.g.", ".b.c.d.e.f.g.h", "a.b.c.d..f.g.h", ".......", "0.", ".0"}) {
            Desk.hasFault("{$set:{'" + path + "':1}}", 3, 0, 0);
            Desk.hasFault("{$pull:{x:1,'" + path + "':1}}", 3, 0, 1);
        }
    }

    private static void longSteps() {
        Check.sentence(PLACE, "A PATH is names with a point between two of them: 1 to 8 STEPS, none of them empty.");
        String step = Docs.times("s", 240);
        String eight = step + Docs.times("." + step, 7);
        Desk.isChange("{$unset:{'" + eight + "':null}}", 1);
        Desk.hasFault("{$unset:{'" + eight + ".s':null}}", 3, 0, 0);
        Desk.done("{}", "{$set:{'" + Docs.times("s", 1900) + "':null}}", 1, "{" + Docs.times("s", 1900) + ":null}");
        Desk.isChange("{$set:{' . ':1,'$.$':1,'\u20ac.\u00e9':1,'\u0001':1,'-.,':1}}", 5);
    }

    private static void numbers() {
        Check.sentence(PLACE, "A step that is decimal digits, as many as one likes (0, or without a 0 ahead), is a NUMBER.");
        for (int items : new int[] {1, 2, 10, 11, 12, 101}) {
            for (int item : new int[] {0, 1, 9, 10, 11, 99, 100}) {
                if (item < items) {
                    String ahead = Docs.times("1,", item);
                    String behind = Docs.times(",1", items - item - 1);
                    Desk.done("{r:[" + ahead + "1" + behind + "]}", "{$set:{'r." + item + "':2}}", 1,
                        "{r:[" + ahead + "2" + behind + "]}");
                    Desk.done("{r:[" + ahead + "[2]" + behind + "]}", "{$pull:{'r." + item + "':2}}", 1,
                        "{r:[" + ahead + "[]" + behind + "]}");
                }
            }
        }
    }

    private static void asManyDigitsAsOneLikes() {
        Check.sentence(PLACE, "A step that is decimal digits, as many as one likes (0, or without a 0 ahead), is a NUMBER.");
        for (String number : GREAT_NUMBERS) {
            for (String row : new String[] {"[]", "[1]", "[[1],[1]]"}) {
                Desk.fails("{r:" + row + "}", "{$set:{'r." + number + "':1}}", 6);
                Desk.fails("{r:" + row + "}", "{$push:{'r." + number + ".a':1}}", 6);
                Desk.done("{r:" + row + "}", "{$unset:{'r." + number + "':1}}", 0, "{r:" + row + "}");
                Desk.done("{r:" + row + "}", "{$pull:{'r." + number + "':1}}", 0, "{r:" + row + "}");
                Desk.done("{r:" + row + "}", "{$unset:{'r." + number + ".0':1}}", 0, "{r:" + row + "}");
            }
        }
    }

    private static void noNumbers() {
        Check.sentence(PLACE, "A step that is decimal digits, as many as one likes (0, or without a 0 ahead), is a NUMBER.");
        for (String step : NO_NUMBERS) {
            for (String row : new String[] {"[]", "[[1]]", "[[1],[1]]", Docs.row("[1]", 11)}) {
                Desk.fails("{r:" + row + "}", "{$set:{'r." + step + "':1}}", 6);
                Desk.fails("{r:" + row + "}", "{$set:{'r." + step + ".0':1}}", 6);
                Desk.done("{r:" + row + "}", "{$unset:{'r." + step + "':1}}", 0, "{r:" + row + "}");
                Desk.done("{r:" + row + "}", "{$pull:{'r." + step + "':1}}", 0, "{r:" + row + "}");
                Desk.done("{r:" + row + "}", "{$unset:{'r." + step + ".0':1}}", 0, "{r:" + row + "}");
            }
        }
    }

    private static void digitsInDocuments() {
        Check.sentence(PLACE, "A step meets in a document the element of that name");
        Desk.done("{d:{'0':1,'00':2,'1':3,'01':4}}", "{$set:{'d.01':5,'d.00':6}}", 2, "{d:{'0':1,'00':6,'1':3,'01':5}}");
        Desk.done("{d:{'5':1}}", "{$unset:{'d.0':1}}", 0, "{d:{'5':1}}");
        Desk.done("{d:{'5':1}}", "{$unset:{'d.5':1}}", 1, "{d:{}}");
        for (String step : NO_NUMBERS) {
            Desk.done("{'" + step + "':1}", "{$inc:{'" + step + "':1}}", 1, "{'" + step + "':2}");
        }
        for (String step : GREAT_NUMBERS) {
            if (step.length() < 100) {
                Desk.done("{'" + step + "':1}", "{$inc:{'" + step + "':1}}", 1, "{'" + step + "':2}");
            }
        }
    }

    private static void meets() {
        Check.sentence(PLACE, "A step meets in a document the element of that name; in a row, if it is a number, the item of"
            + " that number (from 0 on).");
        Desk.done("{a:1,ab:2,b:3}", "{$set:{ab:4}}", 1, "{a:1,ab:4,b:3}");
        Desk.done("{ab:1,a:2}", "{$set:{a:4}}", 1, "{ab:1,a:4}");
        Desk.done("{A:1,a:2}", "{$unset:{a:4}}", 1, "{A:1}");
        Desk.done("{'a.b':1,a:{b:2}}", "{$unset:{'a.b':4}}", 1, "{'a.b':1,a:{}}");
        Desk.done("{'':1,a:{'':2}}", "{$unset:{a:4}}", 1, "{'':1}");
        Desk.done("{r:[1,2,3]}", "{$unset:{'r.0':1}}", 1, "{r:[null,2,3]}");
        Desk.done("{r:[1,2,3]}", "{$unset:{'r.2':1}}", 1, "{r:[1,2,null]}");
        Desk.done("{r:[1,2,3]}", "{$unset:{'r.3':1}}", 0, "{r:[1,2,3]}");
        Desk.done("{r:[[1,2],[3,{s:[4,5]}]]}", "{$unset:{'r.1.1.s.0':1,'r.0.1':1}}", 2, "{r:[[1,null],[3,{s:[null,5]}]]}");
        Desk.done("{a:{b:1},b:{a:2}}", "{$set:{'b.a':3}}", 1, "{a:{b:1},b:{a:3}}");
        Desk.done("{a:{c:1},b:{c:2}}", "{$unset:{'b.c':3}}", 1, "{a:{c:1},b:{}}");
    }
}
