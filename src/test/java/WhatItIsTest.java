/** What it is: all of a change or none of it, the first thing that can't be, and an object's last calls. */
public final class WhatItIsTest {
    private static final String PLACE = "What it is";
    private static final String BEFORE = "{b:1,e:[1,2,1],f:[1],n:9223372036854775807L,r:[1],t:'x',u:'x',v:'x'}";
    private static final String AFTER = "{e:[2],f:[1,2],n:9223372036854775807L,r:[1],t:'x',u:'x',v:'x',a:1,c:1,d:[1]}";

    /** Each operator with a path that changes something. */
    private static final String[][] DOABLE = {
        {"$set", "a:1"}, {"$unset", "b:1"}, {"$inc", "c:1"}, {"$push", "d:1"}, {"$pull", "e:1"}, {"$addToSet", "f:2"}};

    /** Operators with a path that can't be done, by their numbers in DOABLE, and what apply() answers. */
    private static final String[][] FAULTY = {
        {"0", "'t.x':1", "-14"}, {"2", "n:1", "-12"}, {"3", "u:1", "-13"}, {"4", "v:1", "-13"}, {"5", "'r.9':1", "-14"}};

    public static void main(String[] args) {
        allOfAChange();
        noneOfAChange();
        firstThing();
        lastCalls();
        Check.end();
    }

    /** A change of the doable paths, with another path ahead of or behind that of some operators. */
    private static String change(String[] ahead, String[] behind) {
        StringBuilder out = new StringBuilder("{");
        for (int i = 0; i < DOABLE.length; i++) {
            out.append(DOABLE[i][0]).append(":{");
            out.append(ahead[i] == null ? "" : ahead[i] + ",").append(DOABLE[i][1]);
            out.append(behind[i] == null ? "" : "," + behind[i]).append("},");
        }
        return out.append("}").toString();
    }

    private static String[] only(String[] faulty) {
        String[] out = new String[DOABLE.length];
        out[Integer.parseInt(faulty[0])] = faulty[1];
        return out;
    }

    private static void fails(String change, int paths, String[] faulty, int path) {
        Desk desk = new Desk();
        desk.read(2, BEFORE);
        Check.due(change + ": change", desk.change(change), paths);
        Check.due(change, desk.apply(2), Integer.parseInt(faulty[2]));
        desk.tells(change, Integer.parseInt(faulty[0]), path);
        desk.holds(change, 2, BEFORE);
    }

    private static void allOfAChange() {
        Check.sentence(PLACE, "operators, each with paths and arguments; all of a change is done or none of it");
        String[] none = new String[DOABLE.length];
        Desk.done(BEFORE, change(none, none), DOABLE.length, AFTER);
    }

    private static void noneOfAChange() {
        Check.sentence(PLACE, "all of a change is done or none of it");
        String[] none = new String[DOABLE.length];
        for (String[] faulty : FAULTY) {
            fails(change(only(faulty), none), 7, faulty, 0);
            fails(change(none, only(faulty)), 7, faulty, 1);
        }
    }

    private static void firstThing() {
        Check.sentence(PLACE, "and the first thing that can't be is told.");
        for (String[] first : FAULTY) {
            for (String[] second : FAULTY) {
                if (Integer.parseInt(first[0]) < Integer.parseInt(second[0])) {
                    fails(change(only(first), only(second)), 8, first, 0);
                    fails(change(only(second), only(first)), 8, first, 1);
                }
            }
        }
    }

    private static void lastCalls() {
        Check.sentence(PLACE, "An object is used for at most 512 calls after it has been made");
        Desk desk = new Desk();
        desk.change("{$inc:{n:1}}");
        for (int n = 1; desk.callsLeft() > 2; n++) {
            Check.due("apply " + n, desk.apply(1), 1);
        }
        Check.due("the last two calls", desk.byteAt(1, 7) + 256 * desk.byteAt(1, 8), 512 - 5);
    }
}
