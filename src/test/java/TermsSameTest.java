/** Terms: which values are SAME, as $addToSet and $pull find them in rows. */
public final class TermsSameTest {
    private static final String PLACE = "Terms, SAME";

    private static final String[][] NOTHING = {{"null"}};
    private static final String[][] NUMBERS = {{"0", "0L"}, {"1", "1L"}, {"-1", "-1L"}, {"256", "256L"},
        {"2147483647", "2147483647L"}, {"-2147483648", "-2147483648L"}, {"2147483648L"}, {"-2147483649L"},
        {"4294967295L"}, {"4294967296L"}, {"4294967297L"}, {"9223372036854775807L"}, {"-9223372036854775808L"},
        {"27974191445704708L"}};
    // The 64 bit number above has the bytes of the text 'abc'.
    private static final String[][] TEXTS = {{"''"}, {"'a'"}, {"'b'"}, {"'A'"}, {"'ab'"}, {"'abc'"}, {"'abd'"},
        {"'xbc'"}, {"'\u0000'"}, {"'a\u0000'"}, {"'a\u0000b'"}, {"'a\u0000c'"}, {"'0'"}, {"'1'"}, {"'\u00e9'"},
        {"'e\u0301'"}};
    private static final String[][] TRUTHS = {{"true"}, {"false"}};
    private static final String[][] DOCUMENTS = {{"{}"}, {"{a:1}", "{a:1L}"}, {"{a:2}"}, {"{b:1}"}, {"{A:1}"},
        {"{ab:1}"}, {"{'':1}"}, {"{'0':1}"}, {"{'0':1,'1':2}"}, {"{a:null}"}, {"{a:true}"}, {"{a:false}"},
        {"{a:'1'}"}, {"{a:''}"}, {"{a:{}}"}, {"{a:[]}"}, {"{a:[1]}", "{a:[1L]}"}, {"{a:{'0':1}}"}, {"{b:null}"},
        {"{a:1,b:2}", "{a:1L,b:2}", "{a:1,b:2L}", "{a:1L,b:2L}"}, {"{b:2,a:1}"}, {"{a:2,b:1}"}, {"{a:1,b:3}"},
        {"{a:1,c:2}"}, {"{a:1,b:null}"}, {"{a:1,b:2,c:3}"}, {"{a:{b:{c:1}}}", "{a:{b:{c:1L}}}"}, {"{a:{b:{d:1}}}"},
        {"{a:{b:{}}}"}, {"{a:{b:1},c:1}"}, {"{a:{b:1,c:1}}"}};
    private static final String[][] ROWS = {{"[]"}, {"[1]", "[1L]"}, {"[2]"}, {"[null]"}, {"[true]"}, {"['1']"},
        {"['']"}, {"[[]]"}, {"[{}]"}, {"[[1]]"}, {"[1,2]", "[1L,2]", "[1,2L]", "[1L,2L]"}, {"[2,1]"}, {"[1,3]"},
        {"[1,1]"}, {"[1,null]"}, {"[1,2,3]"}, {"[[1],2]"}, {"[[1,2]]"}, {"[1,[2]]"},
        {"[{a:[1,{b:2}]}]", "[{a:[1L,{b:2L}]}]"}, {"[{a:[1,{c:2}]}]"}};
    private static final String[][][] CLASSES = {NOTHING, NUMBERS, TEXTS, TRUTHS, DOCUMENTS, ROWS};

    public static void main(String[] args) {
        Check.sentence(PLACE, "two values are the same when both are NOTHING");
        compare(NOTHING);
        Check.sentence(PLACE, "or numbers (of either kind) of one value");
        compare(NUMBERS);
        Check.sentence(PLACE, "or texts of the same bytes");
        compare(TEXTS);
        longTexts();
        Check.sentence(PLACE, "or truths that are alike");
        compare(TRUTHS);
        Check.sentence(PLACE, "or documents with as many elements, one after the other with the same names"
            + " and SAME values of one class (NOTHING, numbers, texts, documents, rows, truths)");
        compare(DOCUMENTS);
        deep("{a:", "}");
        Check.sentence(PLACE, "or rows with as many items, one after the other SAME.");
        compare(ROWS);
        deep("[", "]");
        Check.end();
    }

    /** Every value of a class with all values of all classes; those of one group are SAME, and no others. */
    private static void compare(String[][] oneClass) {
        for (String[] group : oneClass) {
            for (String value : group) {
                compareWithAll(group, value);
            }
        }
    }

    private static void compareWithAll(String[] group, String value) {
        for (String[][] otherClass : CLASSES) {
            for (String[] other : otherClass) {
                for (String otherValue : other) {
                    due(value, otherValue, group == other);
                }
            }
        }
    }

    /** As an item of a row, alone and between others, and as an element of an item. */
    private static void due(String item, String argument, boolean same) {
        found("[" + item + "]", argument, same);
        found("['-'," + item + ",'+']", argument, same);
        found("[{k:" + item + ",l:1}]", "{k:" + argument + ",l:1}", same);
    }

    private static void found(String row, String argument, boolean same) {
        Desk desk = new Desk();
        desk.read(0, "{r:" + row + "}");
        desk.copy(1, 0);
        String what = argument + " in " + row;
        desk.change("{$addToSet:{r:" + argument + "}}");
        Check.due("$addToSet " + what, desk.apply(0), same ? 0 : 1);
        String longer = row.substring(0, row.length() - 1) + "," + argument + "]";
        desk.holds("$addToSet " + what, 0, "{r:" + (same ? row : longer) + "}");
        desk.change("{$pull:{r:" + argument + "}}");
        Check.due("$pull " + what, desk.apply(1), same ? 1 : 0);
        desk.holds("$pull " + what, 1, "{r:" + (same ? without(row) : row) + "}");
    }

    private static String without(String row) {
        return row.startsWith("['-'") ? "['-','+']" : "[]";
    }

    private static void longTexts() {
        String text = Docs.times("x", 800);
        due("'" + text + "'", "'" + text + "'", true);
        due("'" + text + "'", "'" + text + "x'", false);
        due("'" + text + "'", "'" + text.substring(1) + "y'", false);
        due("'" + text + "'", "'y" + text.substring(1) + "'", false);
    }

    /** An item lies 3 deep, so that it has 14 levels at most. */
    private static void deep(String open, String close) {
        for (int depth = 2; depth <= 13; depth++) {
            String ahead = Docs.times(open, depth);
            String behind = Docs.times(close, depth);
            boolean element = depth < 13;
            deepPair(ahead, behind, "1", "1L", true, element);
            deepPair(ahead, behind, "1", "2", false, element);
            deepPair(ahead, behind, "{}", "{}", true, element);
            deepPair(ahead, behind, "{}", "[]", false, element);
            deepPair(ahead, behind, "[]", "{}", false, element);
        }
    }

    private static void deepPair(String ahead, String behind, String a, String b, boolean same, boolean element) {
        found("[" + ahead + a + behind + "]", ahead + b + behind, same);
        if (element) {
            due(ahead + a + behind, ahead + b + behind, same);
        }
    }
}
