import java.lang.reflect.Constructor;
import java.lang.reflect.Field;
import java.lang.reflect.Method;
import java.lang.reflect.Modifier;
import java.util.Arrays;
import java.util.Set;
import java.util.TreeSet;

/** The face of the class is the document's, and there is nothing beside it. */
public final class FaceTest {
    /** Behind each method what its throws clause names, in order. */
    private static final String[] FACE = {
        "int wind(int,int,int) throws IndexOutOfBounds IllegalArgument",
        "int vane(int,int,int) throws IndexOutOfBounds IllegalArgument",
        "int mill(int,int) throws IndexOutOfBounds IllegalArgument",
        "int set(int,int) throws IndexOutOfBounds IllegalArgument",
        "int bring(int,int,int) throws IndexOutOfBounds IllegalArgument",
        "int takeBack(int) throws IndexOutOfBounds",
        "int pass(int) throws IllegalArgument IllegalState",
        "int append(int) throws IllegalArgument IllegalState",
        "int clearBuffer()",
        "int firstError()",
        "int load() throws IllegalArgument",
        "int keep(int) throws IllegalArgument",
        "int goBack(int) throws IllegalArgument IllegalState",
        "int undo() throws IllegalState",
        "int hourOf(int,int) throws IndexOutOfBounds IllegalArgument",
        "int vaneOf(int,int) throws IndexOutOfBounds IllegalArgument",
        "int millOf(int,int) throws IndexOutOfBounds IllegalArgument",
        "int ownerOf(int,int) throws IndexOutOfBounds IllegalArgument",
        "int count(int) throws IllegalArgument",
        "int setting(int) throws IndexOutOfBounds",
        "int doneIn(int,int) throws IndexOutOfBounds IllegalArgument",
        "int ifPassed(int,int) throws IndexOutOfBounds IllegalArgument",
        "int turnsIn()",
        "int mainVane()",
        "double turnShare()",
        "long digest()",
    };

    public static void main(String[] args) {
        Checks checks = new Checks();
        checks.begin("face");
        int modifiers = VaneVotes.class.getModifiers();
        checks.dueTrue("the class is public and final", Modifier.isPublic(modifiers) && Modifier.isFinal(modifiers));
        checks.due("NONE", VaneVotes.NONE, -1);
        methods(checks);
        fieldsAndConstructors(checks);
        checks.end();
    }

    private static void methods(Checks checks) {
        Set<String> want = new TreeSet<>(Arrays.asList(FACE));
        Set<String> got = new TreeSet<>();
        Set<String> publicNames = new TreeSet<>();
        for (Method method : VaneVotes.class.getDeclaredMethods()) {
            if (!Modifier.isPrivate(method.getModifiers()) && !method.isSynthetic()) {
                got.add(signature(method));
                publicNames.add(method.getName());
                checks.dueTrue(method.getName() + " is public and not static",
                    Modifier.isPublic(method.getModifiers()) && !Modifier.isStatic(method.getModifiers()));
            }
        }
        checks.dueTrue("methods are " + got + ", due are " + want, got.equals(want));
        for (Method method : VaneVotes.class.getDeclaredMethods()) {
            checks.dueTrue("a private method bears the public name " + method.getName(),
                !Modifier.isPrivate(method.getModifiers()) || !publicNames.contains(method.getName()));
        }
    }

    private static String signature(Method method) {
        StringBuilder text = new StringBuilder();
        text.append(method.getReturnType()).append(' ').append(method.getName()).append('(');
        for (int i = 0; i < method.getParameterTypes().length; i++) {
            text.append(i == 0 ? "" : ",").append(method.getParameterTypes()[i]);
        }
        text.append(')');
        for (Class<?> thrown : method.getExceptionTypes()) {
            text.append(text.indexOf(" throws ") < 0 ? " throws " : " ");
            text.append(thrown.getSimpleName().replace("Exception", ""));
        }
        return text.toString();
    }

    private static void fieldsAndConstructors(Checks checks) {
        for (Field field : VaneVotes.class.getDeclaredFields()) {
            checks.dueTrue("the field " + field.getName() + " can be seen",
                field.getName().equals("NONE") || field.isSynthetic() || Modifier.isPrivate(field.getModifiers()));
            checks.dueTrue("the static field " + field.getName() + " is not final",
                !Modifier.isStatic(field.getModifiers()) || Modifier.isFinal(field.getModifiers()));
        }
        for (Constructor<?> constructor : VaneVotes.class.getDeclaredConstructors()) {
            checks.dueTrue("another constructor than the public one",
                Modifier.isPublic(constructor.getModifiers()) && constructor.getParameterCount() == 0);
        }
    }
}
