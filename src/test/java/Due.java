import java.util.TreeSet;

/** Counts the answers that are not the ones due, and tells of each the sentence it belongs to. */
final class Due {
    private static final TreeSet<String> SENTENCES = new TreeSet<>();
    private static String sentence = "";
    private static int wrong = 0;
    private static int asked = 0;

    private Due() {
    }

    /** The answers looked at from here on belong to these words of the document. */
    static void sentence(String place, String words) {
        sentence = place + " \"" + words + "\": ";
        SENTENCES.add(sentence);
    }

    static void is(String what, long got, long want) {
        asked++;
        if (got != want) {
            tell(what + " answered " + got + ", due is " + want);
        }
    }

    static void holds(String what, boolean held) {
        asked++;
        if (!held) {
            tell(what + " does not hold");
        }
    }

    /** Two pictures of objects that must not differ: the first line in which they do is told. */
    static void same(String what, String got, String want) {
        asked++;
        if (!got.equals(want)) {
            String[] gotLines = got.split("\n");
            String[] wantLines = want.split("\n");
            int k = 0;
            while (gotLines[k].equals(wantLines[k])) {
                k++;
            }
            tell(what + " left '" + gotLines[k] + "', due is '" + wantLines[k] + "'");
        }
    }

    static void end() {
        System.out.println(SENTENCES.size() + " sentences, " + asked + " answers looked at, " + wrong + " wrong");
        if (wrong != 0 || asked == 0) {
            System.exit(1);
        }
    }

    private static void tell(String fault) {
        wrong++;
        System.out.println(sentence + fault);
    }
}
