import java.io.IOException;
import java.lang.reflect.Constructor;
import java.lang.reflect.Field;
import java.lang.reflect.Method;
import java.lang.reflect.Modifier;
import java.nio.file.Files;
import java.util.ArrayList;
import java.util.List;
import java.util.Set;
import java.util.regex.Matcher;
import java.util.regex.Pattern;

/** Those rules of LANGUAGE.md that can be read off the source and the class. */
public final class LanguageTest {
    /** What rules 1, 2, 4, 5, 6 and 13 leave out, wherever it stands in code. */
    private static final String[] LEFT_OUT = {
        "\\bpackage\\b", "\\bprotected\\b", "::", "^(?! *(case|default)\\b).*->", "\\bstatic \\{",
        "\\bfinally\\b", "\\bsynchronized\\b", "\\bassert\\b", "\\btry \\(", "\\bSystem\\.(?!arraycopy\\b)",
        "\\bObject\\b", "\\bThread\\b", "\\bRandom\\b", "Exact\\(",
    };
    private static final String IMPORTS = "java\\.util\\.(Arrays|ArrayList|List|Iterator|NoSuchElementException)";
    private static final Set<Class<?>> CONSTANTS = Set.of(int.class, long.class, boolean.class, char.class,
            String.class, int[].class, long[].class, char[].class, byte[].class);
    private static final int MOST_LINES = 60;
    private static final int MOST_PARAMETERS = 7;
    private static final int MOST_CLASSES = 12;
    private static final int MOST_FIELDS = 20;

    public static void main(String[] args) throws IOException {
        Expect expect = new Expect();
        String source = Files.readString(Checkout.SOURCE).replaceAll("(?s)/\\*.*?\\*/|//[^\n]*", "");
        for (String left : LEFT_OUT) {
            Matcher found = Pattern.compile(left, Pattern.MULTILINE).matcher(source);
            expect.due(left + " is left out", found.find(), false);
        }
        Matcher imports = Pattern.compile("import ([^;]*);").matcher(source);
        while (imports.find()) {
            expect.due("import " + imports.group(1), imports.group(1).matches(IMPORTS), true);
        }
        lookAtMethods(expect, source);
        List<Class<?>> classes = new ArrayList<>(List.of(ValueMill.class.getDeclaredClasses()));
        classes.add(ValueMill.class);
        expect.due("at most " + MOST_CLASSES + " classes", classes.size() <= MOST_CLASSES, true);
        for (Class<?> owner : classes) {
            lookAtClass(expect, owner);
        }
        expect.finish();
    }

    private static void lookAtMethods(Expect expect, String source) {
        String name = "";
        int begun = 0;
        int number = 0;
        for (String line : source.split("\n")) {
            number++;
            Matcher head = Pattern.compile("^ {4,8}(?:public|private) .*?(\\w+)\\([^)]*\\) \\{$").matcher(line);
            if (head.find()) {
                name = head.group(1);
                begun = number;
            }
            if (line.matches("^ {4,8}\\}$") && begun != 0) {
                expect.due(name + " is short", number - begun <= MOST_LINES, true);
                begun = 0;
            }
        }
    }

    private static void lookAtClass(Expect expect, Class<?> owner) {
        for (Method method : owner.getDeclaredMethods()) {
            expect.due(method + " takes few", method.getParameterCount() <= MOST_PARAMETERS, true);
        }
        for (Constructor<?> constructor : owner.getDeclaredConstructors()) {
            expect.due(constructor + " takes few", constructor.getParameterCount() <= MOST_PARAMETERS, true);
        }
        int fields = 0;
        for (Field field : owner.getDeclaredFields()) {
            boolean isStatic = Modifier.isStatic(field.getModifiers());
            if (isStatic && !field.isSynthetic()) {
                expect.due(field + " is a constant", isConstant(field), true);
            }
            fields += isStatic ? 0 : 1;
        }
        expect.due(owner + " has few fields", fields <= MOST_FIELDS, true);
    }

    /** Or the constants of an enum, or all of them kept once. */
    private static boolean isConstant(Field field) {
        Class<?> type = field.getType();
        boolean ofEnum = type.isEnum() || type.isArray() && type.getComponentType().isEnum();
        return Modifier.isFinal(field.getModifiers()) && (ofEnum || CONSTANTS.contains(type));
    }
}
