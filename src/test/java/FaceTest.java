import java.io.IOException;
import java.lang.reflect.Constructor;
import java.lang.reflect.Field;
import java.lang.reflect.Method;
import java.lang.reflect.Modifier;
import java.nio.file.Files;
import java.util.Set;
import java.util.TreeSet;
import java.util.regex.Matcher;
import java.util.regex.Pattern;

/** The face is the document's and no more, and no private method bears one of its names. */
public final class FaceTest {
    private static final String FACE = "int block();boolean op(int,int,int,int,int);boolean jump(int,int);"
            + "boolean branch(int,int,int,int);boolean ret(int,int);boolean memory(int,int);int run(int,int,int);"
            + "int value();int entered();int word(int);int calls();int call(int,int);int order(int);"
            + "int nearest(int);boolean frontier(int,int);boolean live(int,int);boolean phi(int,int);"
            + "int depth(int)";

    public static void main(String[] args) throws IOException {
        Expect expect = new Expect();
        Set<String> due = new TreeSet<>(Set.of(FACE.split(";")));
        if (Files.isReadable(Checkout.DOCUMENT)) {
            expect.due("the document has this face", faceIn(Files.readString(Checkout.DOCUMENT)).equals(due), true);
        }
        Set<String> names = new TreeSet<>();
        Set<String> found = new TreeSet<>();
        for (Method method : ValueMill.class.getDeclaredMethods()) {
            if (!Modifier.isPrivate(method.getModifiers())) {
                expect.due(method + " is public", Modifier.isPublic(method.getModifiers()), true);
                found.add(written(method));
                names.add(method.getName());
            }
        }
        expect.due("the methods are " + found + ", due are " + due, found.equals(due), true);
        lookForNames(expect, ValueMill.class, names);
        for (Class<?> inside : ValueMill.class.getDeclaredClasses()) {
            expect.due(inside + " is static", Modifier.isStatic(inside.getModifiers()), true);
            expect.due(inside + " is not public", Modifier.isPublic(inside.getModifiers()), false);
            lookForNames(expect, inside, names);
        }
        for (Field field : ValueMill.class.getDeclaredFields()) {
            boolean isNone = field.getName().equals("NONE");
            expect.due(field + " is private", Modifier.isPrivate(field.getModifiers()), !isNone);
        }
        for (Constructor<?> constructor : ValueMill.class.getDeclaredConstructors()) {
            expect.due(constructor + " is public", Modifier.isPublic(constructor.getModifiers()), true);
            expect.due(constructor + " takes nothing", constructor.getParameterCount(), 0);
        }
        int modifiers = ValueMill.class.getModifiers();
        expect.due("public and final", Modifier.isPublic(modifiers) && Modifier.isFinal(modifiers), true);
        expect.finish();
    }

    private static Set<String> faceIn(String document) {
        Set<String> found = new TreeSet<>();
        Matcher method = Pattern.compile("public (\\w+ \\w+)\\((.*)\\);").matcher(document);
        while (method.find()) {
            found.add(method.group(1) + "(" + method.group(2).replaceAll("(\\w+) \\w+", "$1").replace(" ", "") + ")");
        }
        return found;
    }

    private static String written(Method method) {
        StringBuilder parameters = new StringBuilder();
        for (Class<?> parameter : method.getParameterTypes()) {
            parameters.append(parameters.length() == 0 ? "" : ",").append(parameter.getName());
        }
        return method.getReturnType().getName() + " " + method.getName() + "(" + parameters + ")";
    }

    private static void lookForNames(Expect expect, Class<?> owner, Set<String> names) {
        for (Method method : owner.getDeclaredMethods()) {
            boolean bears = Modifier.isPrivate(method.getModifiers()) && names.contains(method.getName());
            expect.due(method + " bears a name of the face", bears, false);
        }
    }
}
