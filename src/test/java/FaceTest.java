import java.lang.reflect.Modifier;

/** The face of the class: its constants and that nothing else can be seen of it. */
public final class FaceTest {
    public static void main(String[] args) {
        Check check = new Check("face");
        check.due("NONE", FieldOvens.NONE, -1);
        check.due("UNKNOWN", FieldOvens.UNKNOWN, -101);
        check.due("OUTSIDE", FieldOvens.OUTSIDE, -102);
        check.due("STATE", FieldOvens.STATE, -103);
        check.due("FULL", FieldOvens.FULL, -104);
        int methods = 0;
        for (var method : FieldOvens.class.getDeclaredMethods()) {
            if (method.isSynthetic()) continue;
            if (Modifier.isPublic(method.getModifiers())) methods++;
            else check.yes(method.getName() + " is private", Modifier.isPrivate(method.getModifiers()));
        }
        check.due("public methods", methods, 30);
        int constants = 0;
        for (var field : FieldOvens.class.getDeclaredFields()) {
            if (Modifier.isPublic(field.getModifiers())) constants++;
            else check.yes(field.getName() + " is private", Modifier.isPrivate(field.getModifiers()));
            if (Modifier.isStatic(field.getModifiers())) {
                check.yes(field.getName() + " is final", Modifier.isFinal(field.getModifiers()));
            }
        }
        check.due("public constants", constants, 5);
        check.due("public constructors", FieldOvens.class.getConstructors().length, 1);
        check.yes("the class is final", Modifier.isFinal(FieldOvens.class.getModifiers()));
        check.end();
    }
}
