import java.io.IOException;
import java.nio.file.Files;
import java.nio.file.Path;
import java.util.Map;
import java.util.TreeMap;
import java.util.regex.Matcher;
import java.util.regex.Pattern;

/**
 * That some test is about each piece of the document, word for word, but for the few that no answer
 * can show. What a test is about is read off the tests' sources; that it asks for answers there is
 * seen to by {@link Expect}.
 */
public final class DocumentTest {
    /** The first says in short what the promises say; what the second says, nothing can go against. */
    private static final String[] NOT_SHOWN = {
        "A small backend: programs of blocks over temporaries are looked at (order, dominators, frontiers, "
                + "what is live, where phis stand, loops), and run at four stages",
        "what later calls answer is free",
    };
    private static final Pattern LITERAL = Pattern.compile("\"([^\"]*)\"");
    private static final Pattern ABOUT = Pattern.compile("\\.about\\(((?:[\\s+]*\"[^\"]*\")+)\\);");
    private static final int PROMISES = 19;

    private final Expect expect = new Expect();
    private final Map<String, String> testsByPiece = new TreeMap<>();

    public static void main(String[] args) throws IOException {
        DocumentTest test = new DocumentTest();
        test.readTests();
        if (Files.isReadable(Checkout.DOCUMENT)) {
            test.lookAt(Files.readString(Checkout.DOCUMENT));
        } else {
            System.out.println("NOT LOOKED AT: there is no " + Checkout.DOCUMENT);
        }
        test.expect.finish();
    }

    private void readTests() throws IOException {
        for (Path file : Checkout.filesUnder(Checkout.TESTS)) {
            Matcher about = ABOUT.matcher(Files.readString(file));
            while (about.find()) {
                Matcher literal = LITERAL.matcher(about.group(1));
                StringBuilder piece = new StringBuilder();
                while (literal.find()) {
                    piece.append(literal.group(1));
                }
                testsByPiece.put(piece.toString(), file.getFileName().toString());
            }
        }
        expect.due("tests are about something", testsByPiece.isEmpty(), false);
    }

    private void lookAt(String document) {
        for (int promise = 1; promise <= PROMISES; promise++) {
            expect.due("promise " + promise + " stands there", document.contains("## Promise " + promise + ":"), true);
        }
        expect.due("there are no more", document.contains("## Promise " + (PROMISES + 1) + ":"), false);
        String text = textOf(document);
        boolean[] shown = new boolean[text.length()];
        for (Map.Entry<String, String> piece : testsByPiece.entrySet()) {
            mark(piece.getValue() + " is about", piece.getKey(), text, shown);
        }
        for (String piece : NOT_SHOWN) {
            mark("no test is about", piece, text, shown);
        }
        lookForTheRest(text, shown);
    }

    /** What is promised: without the headings, the face and the calls' heads, which FaceTest has. */
    private static String textOf(String document) {
        String promised = document.substring(0, document.indexOf("## Not promised"));
        String sentences = promised.replaceAll("(?s)```.*?```", "").replaceAll("(?m)^#.*$", "");
        return sentences.replaceAll("`[^`]*`:", "").replaceAll("\\s+", " ");
    }

    /** A piece that stood there twice would leave open which of the two is meant. */
    private void mark(String who, String piece, String text, boolean[] shown) {
        int at = text.indexOf(piece);
        expect.due(who + " what stands in the document: " + piece, at >= 0, true);
        expect.due(who + " what stands there once: " + piece, at == text.lastIndexOf(piece), true);
        for (int i = Math.max(0, at); i < at + piece.length(); i++) {
            shown[i] = true;
        }
    }

    private void lookForTheRest(String text, boolean[] shown) {
        StringBuilder rest = new StringBuilder();
        for (int i = 0; i < text.length(); i++) {
            rest.append(shown[i] ? '\n' : text.charAt(i));
        }
        for (String piece : rest.toString().split("\n+")) {
            expect.due("no test is about: " + piece, piece.matches("[ .,;:()]*"), true);
        }
    }
}
