import java.util.Arrays;

/** Counts the answers that are not as due, tells each with the sentence that it breaks, and ends a test by them. */
final class Check {
    private static int wrong = 0;
    private static String sentence = "";

    private Check() {
    }

    /** What is checked from now on belongs to this sentence of the document, in its own words. */
    static void sentence(String place, String words) {
        sentence = place + " \"" + words + "\": ";
    }

    static void due(String what, long got, long want) {
        if (got != want) {
            fail(cut(what) + ": answered " + got + ", due is " + want);
        }
    }

    static void due(String what, boolean got, boolean want) {
        due(what, got ? 1 : 0, want ? 1 : 0);
    }

    static void due(String what, byte[] got, byte[] want) {
        if (!Arrays.equals(got, want)) {
            fail(cut(what) + ": bytes " + cut(Arrays.toString(got)) + ", due are " + cut(Arrays.toString(want))
                + ", other from byte " + Arrays.mismatch(got, want) + " on");
        }
    }

    static void fail(String what) {
        wrong++;
        System.out.println(sentence + what);
    }

    private static String cut(String text) {
        return text.length() <= 300 ? text : text.substring(0, 300) + "..";
    }

    static boolean clean() {
        return wrong == 0;
    }

    static void end() {
        System.out.println(wrong == 0 ? "all answers are as due" : wrong + " answers are not as due");
        if (wrong != 0) {
            System.exit(1);
        }
    }
}
