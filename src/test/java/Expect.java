import java.util.Arrays;
import java.util.Map;
import java.util.TreeMap;

/** Counts the answers that are not as due; a test's main ends with {@link #finish()}. */
final class Expect {
    private final Map<String, int[]> askedByPiece = new TreeMap<>();
    private String about = "";
    private int[] askedHere = new int[1];
    private int wrong;
    private int asked;

    /** The piece of the document, word for word, that the answers from here on are about. */
    void about(String piece) {
        about = "\"" + piece + "\": ";
        askedHere = askedByPiece.computeIfAbsent(piece, added -> new int[1]);
    }

    void due(String call, long got, long want) {
        asked++;
        askedHere[0]++;
        if (got != want) {
            wrong++;
            System.out.println(about + call + " answered " + got + ", due is " + want);
        }
    }

    void due(String call, boolean got, boolean want) {
        due(call, got ? 1 : 0, want ? 1 : 0);
    }

    void due(String call, int[] got, int[] want) {
        int differs = Arrays.mismatch(got, want);
        String told = differs < 0 ? "" : ", first at " + differs + " of " + Arrays.toString(got);
        due(call + told, differs < 0, true);
    }

    int wrong() {
        return wrong;
    }

    void finish() {
        for (Map.Entry<String, int[]> piece : askedByPiece.entrySet()) {
            if (piece.getValue()[0] == 0) {
                wrong++;
                System.out.println("no answer was asked for about \"" + piece.getKey() + "\"");
            }
        }
        String pieces = askedByPiece.isEmpty() ? "" : " (pieces of the document: " + askedByPiece.size() + ")";
        System.out.println(asked + " answers asked for" + pieces + ", " + wrong + " not as due");
        if (wrong != 0 || asked == 0) {
            System.exit(1);
        }
    }
}
