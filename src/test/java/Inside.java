import java.lang.reflect.Field;

/** What can be seen of the class from within, where it is built as README.md says: to build it so is free. */
final class Inside {
    private Inside() {
    }

    /** Says so when it is not: then there is nothing that a test from within could look at. */
    static boolean isKnown() {
        for (Class<?> inside : ValueMill.class.getDeclaredClasses()) {
            if (inside.getSimpleName().equals("Code")) {
                return true;
            }
        }
        System.out.println("NOT LOOKED AT: this ValueMill is built otherwise than README.md says");
        return false;
    }

    static Object read(Object owner, String name) throws ReflectiveOperationException {
        Field field = owner.getClass().getDeclaredField(name);
        field.setAccessible(true);
        return field.get(owner);
    }
}
