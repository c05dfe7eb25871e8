import java.util.Arrays;
import java.util.Set;
import java.util.TreeSet;

/** Counts the answers that are not as due; a test's main ends with {@link #finish()}. */
final class Expect {
    private final Set<String> sentences = new TreeSet<>();
    private String sentence = "";
    private int wrong;
    private int asked;

    /** The sentence of the document that the answers from here on are about. */
    void about(String newSentence) {
        sentence = "\"" + newSentence + "\": ";
        sentences.add(newSentence);
    }

    void due(String call, long got, long want) {
        asked++;
        if (got != want) {
            wrong++;
            System.out.println(sentence + call + " answered " + got + ", due is " + want);
        }
    }

    void due(String call, boolean got, boolean want) {
        due(call, got ? 1 : 0, want ? 1 : 0);
    }

    void due(String call, int[] got, int[] want) {
        int differs = Arrays.mismatch(got, want);
        String told = differs < 0 ? "" : ", first at " + differs + " of " + Arrays.toString(got);
        due(call + told, differs < 0, true);
    }

    int wrong() {
        return wrong;
    }

    void finish() {
        String of = sentences.isEmpty() ? "" : " about " + sentences.size() + " sentences";
        System.out.println(asked + " answers asked for" + of + ", " + wrong + " not as due");
        if (wrong != 0 || asked == 0) {
            System.exit(1);
        }
    }
}
