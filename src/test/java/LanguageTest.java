import java.io.DataInputStream;
import java.io.IOException;
import java.io.InputStream;
import java.lang.reflect.Executable;
import java.lang.reflect.Field;
import java.lang.reflect.Method;
import java.lang.reflect.Modifier;
import java.nio.charset.StandardCharsets;
import java.nio.file.Files;
import java.nio.file.Path;
import java.util.ArrayList;
import java.util.List;
import java.util.Set;
import java.util.regex.Matcher;
import java.util.regex.Pattern;

/** The rules of ../shared/LANGUAGE.md, as far as the text of the class and its compiled form tell them. */
public final class LanguageTest {
    private static final Path SOURCE = Path.of("src/main/java/VaneVotes.java");
    /** What the class uses of the rules 4 and 6; what it comes to use of them goes in here. */
    private static final Set<String> LIBRARY = Set.of(
        "java/lang/Object.<init>()V",
        "java/lang/Math.min(II)I",
        "java/lang/System.arraycopy(Ljava/lang/Object;ILjava/lang/Object;II)V",
        "java/lang/IndexOutOfBoundsException.<init>(Ljava/lang/String;)V",
        "java/lang/IllegalArgumentException.<init>(Ljava/lang/String;)V",
        "java/lang/IllegalStateException.<init>(Ljava/lang/String;)V");
    private static final String[] FORBIDDEN = {
        "\\bpackage\\b", "\\bimport\\b", "\\btry\\b", "\\bcatch\\b", "\\bfinally\\b", "\\bsynchronized\\b",
        "\\bassert\\b", "\\bstatic\\s*\\{", "->", "::", "\\bthrow\\b(?! new (IndexOutOfBounds|IllegalArgument"
        + "|IllegalState)Exception\\(\"[^\"]+\"\\);)", "\\bNaN\\b", "java\\s*\\.", "\\\\u",
    };
    private static final int MOST_CLASSES = 12;
    private static final int MOST_FIELDS = 20;
    private static final int MOST_PARAMETERS = 7;
    private static final int MOST_LINES = 60;

    private static final Checks C = new Checks();

    public static void main(String[] args) throws IOException {
        List<Class<?>> classes = new ArrayList<>();
        collect(VaneVotes.class, classes);
        text(Files.readString(SOURCE, StandardCharsets.ISO_8859_1));
        for (Class<?> one : classes) {
            C.begin(one.getName());
            shape(one);
            library(one);
        }
        C.begin("rule 11");
        C.dueTrue("there are " + classes.size() + " classes", classes.size() <= MOST_CLASSES);
        C.end();
    }

    private static void collect(Class<?> one, List<Class<?>> into) {
        into.add(one);
        for (Class<?> inside : one.getDeclaredClasses()) {
            collect(inside, into);
        }
    }

    private static void text(String source) {
        C.begin("the text");
        for (int i = 0; i < source.length(); i++) {
            C.dueTrue("a sign beyond 127 at " + i, source.charAt(i) >= 1 && source.charAt(i) <= 127);
        }
        String code = source.replaceAll("(?s)/\\*.*?\\*/", "").replaceAll("//[^\\n]*", "");
        for (String pattern : FORBIDDEN) {
            Matcher matcher = Pattern.compile(pattern).matcher(code);
            C.dueTrue("has " + pattern, !matcher.find());
        }
        methodLines(source);
    }

    /** A method begins with a line that ends with "{" behind ")" or its throws clause, and ends by its indent. */
    private static void methodLines(String source) {
        String[] lines = source.split("\n");
        Pattern head = Pattern.compile("( {4}| {8})[a-zA-Z].*\\).*\\{");
        int methods = 0;
        for (int begin = 0; begin < lines.length; begin++) {
            Matcher matcher = head.matcher(lines[begin]);
            if (!matcher.matches() || lines[begin].trim().matches("(if|for|while|switch|else|do)\\b.*")) {
                continue;
            }
            int end = begin;
            while (end < lines.length && !lines[end].equals(matcher.group(1) + "}")) {
                end++;
            }
            methods++;
            C.dueTrue("rule 11: long method: " + lines[begin].trim(), end - begin < MOST_LINES);
        }
        C.dueTrue("methods were found by their first lines", methods >= 26);
    }

    private static void shape(Class<?> one) {
        int fields = 0;
        for (Field field : one.getDeclaredFields()) {
            boolean isStatic = Modifier.isStatic(field.getModifiers());
            fields += isStatic ? 0 : 1;
            C.dueTrue("rule 5: " + field.getName(), !isStatic || Modifier.isFinal(field.getModifiers()));
            C.dueTrue("rule 3: " + field.getName(), isGoodType(field.getType()));
        }
        C.dueTrue("rule 11: " + fields + " fields", fields <= MOST_FIELDS);
        for (Method method : one.getDeclaredMethods()) {
            parameters(method);
        }
        for (Executable constructor : one.getDeclaredConstructors()) {
            parameters(constructor);
        }
        if (one != VaneVotes.class) {
            int modifiers = one.getModifiers();
            C.dueTrue("rule 1: static, and private or package-visible", Modifier.isStatic(modifiers)
                && !Modifier.isPublic(modifiers) && !Modifier.isProtected(modifiers));
        }
    }

    private static void parameters(Executable of) {
        C.dueTrue("rule 11: " + of, of.getParameterCount() <= MOST_PARAMETERS);
        for (Class<?> type : of.getParameterTypes()) {
            C.dueTrue("rule 3: " + of, isGoodType(type));
        }
    }

    /** Numbers and truths, own classes, rows of these, and tables of numbers. */
    private static boolean isGoodType(Class<?> type) {
        if (!type.isArray()) {
            return type.isPrimitive() || type == String.class || type.getName().startsWith("VaneVotes");
        }
        Class<?> part = type.getComponentType();
        return part.isArray() ? part.getComponentType().isPrimitive() : isGoodType(part);
    }

    /** Rules 4 and 6: what the compiled class calls, and no lambda, method reference or join of texts by "+". */
    private static void library(Class<?> one) throws IOException {
        try (InputStream file = one.getResourceAsStream(one.getName() + ".class");
                DataInputStream in = new DataInputStream(file)) {
            in.skipBytes(8);
            int size = in.readUnsignedShort();
            String[] texts = new String[size];
            int[][] pairs = new int[size][];
            List<Integer> calls = new ArrayList<>();
            for (int at = 1; at < size; at++) {
                int tag = in.readUnsignedByte();
                switch (tag) {
                    case 1: texts[at] = in.readUTF(); break;
                    case 3: case 4: in.readInt(); break;
                    case 5: case 6: in.readLong(); at++; break;
                    case 7: case 8: pairs[at] = new int[] {in.readUnsignedShort()}; break;
                    case 9: case 10: case 11:
                        calls.add(at);
                        // falls through: its two parts are read as those of a name and type
                    case 12: pairs[at] = new int[] {in.readUnsignedShort(), in.readUnsignedShort()}; break;
                    default: C.report("an entry of the kind " + tag + ", as of a lambda or of texts joined"); return;
                }
            }
            for (int call : calls) {
                String owner = texts[pairs[pairs[call][0]][0]];
                int[] name = pairs[pairs[call][1]];
                String used = owner + "." + texts[name[0]] + texts[name[1]];
                C.dueTrue("rule 4: uses " + used, owner.startsWith("VaneVotes") || LIBRARY.contains(used));
            }
        }
    }
}
