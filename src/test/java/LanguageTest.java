import java.io.IOException;
import java.lang.reflect.Constructor;
import java.lang.reflect.Field;
import java.lang.reflect.Method;
import java.lang.reflect.Modifier;
import java.nio.file.Files;
import java.nio.file.Path;
import java.util.ArrayList;
import java.util.List;
import java.util.regex.Matcher;
import java.util.regex.Pattern;

/** Those rules of LANGUAGE.md that can be read off the source and the class. */
public final class LanguageTest {
    private static final String[] WORDS_LEFT_OUT = {
        "try", "catch", "throw", "throws", "finally", "synchronized", "assert", "protected", "package", "volatile",
        "while", "double", "float", "instanceof", "System\\.(?!arraycopy)", "Thread", "Random", "Object", "->", "::",
    };
    private static final int MOST_LINES = 60;
    private static final int MOST_PARAMETERS = 7;
    private static final int MOST_CLASSES = 12;
    private static final int MOST_FIELDS = 20;

    public static void main(String[] args) throws IOException {
        Expect expect = new Expect();
        String place = System.getProperty("valuemill.source", "src/main/java/ValueMill.java");
        String source = Files.readString(Path.of(place)).replaceAll("(?s)/\\*.*?\\*/|//[^\n]*", "");
        for (String word : WORDS_LEFT_OUT) {
            String alone = Character.isLetter(word.charAt(0)) ? "\\b" + word + (word.endsWith(")") ? "" : "\\b") : word;
            expect.due(word + " is left out", Pattern.compile(alone).matcher(source).find(), false);
        }
        Matcher imports = Pattern.compile("import ([^;]*);").matcher(source);
        while (imports.find()) {
            expect.due("import " + imports.group(1), imports.group(1).equals("java.util.Arrays"), true);
        }
        lookAtMethods(expect, source);
        List<Class<?>> classes = new ArrayList<>(List.of(ValueMill.class.getDeclaredClasses()));
        classes.add(ValueMill.class);
        expect.due("at most " + MOST_CLASSES + " classes", classes.size() <= MOST_CLASSES, true);
        for (Class<?> owner : classes) {
            lookAtClass(expect, owner);
        }
        expect.finish();
    }

    private static void lookAtMethods(Expect expect, String source) {
        String name = "";
        int begun = 0;
        int number = 0;
        for (String line : source.split("\n")) {
            number++;
            Matcher head = Pattern.compile("^ {4,8}(?:public|private) .*?(\\w+)\\([^)]*\\) \\{$").matcher(line);
            if (head.find()) {
                name = head.group(1);
                begun = number;
            }
            if (line.matches("^ {4,8}\\}$") && begun != 0) {
                expect.due(name + " is short", number - begun <= MOST_LINES, true);
                begun = 0;
            }
        }
    }

    private static void lookAtClass(Expect expect, Class<?> owner) {
        for (Method method : owner.getDeclaredMethods()) {
            expect.due(method + " takes few", method.getParameterCount() <= MOST_PARAMETERS, true);
        }
        for (Constructor<?> constructor : owner.getDeclaredConstructors()) {
            expect.due(constructor + " takes few", constructor.getParameterCount() <= MOST_PARAMETERS, true);
        }
        int fields = 0;
        for (Field field : owner.getDeclaredFields()) {
            boolean isStatic = Modifier.isStatic(field.getModifiers());
            boolean isConstant = isStatic && Modifier.isFinal(field.getModifiers()) && field.getType() == int.class;
            expect.due(field + " is no static state", isStatic, isConstant);
            fields += isStatic ? 0 : 1;
        }
        expect.due(owner + " has few fields", fields <= MOST_FIELDS, true);
    }
}
