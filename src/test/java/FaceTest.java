import java.lang.reflect.Constructor;
import java.lang.reflect.Field;
import java.lang.reflect.Member;
import java.lang.reflect.Method;
import java.lang.reflect.Modifier;
import java.nio.file.Files;
import java.nio.file.Path;
import java.util.Arrays;
import java.util.Set;
import java.util.TreeSet;
import java.util.regex.Matcher;
import java.util.regex.Pattern;
import java.util.stream.Collectors;

/** Compares what a caller sees of the class with the face that the document shows: nothing less, and nothing more. */
public final class FaceTest {
    private static final Pattern METHOD = Pattern.compile("\\s+public (?:(\\w+) )?(\\w+)\\((.*)\\)(?: throws (.+))?;");
    private static final Pattern CONSTANTS = Pattern.compile("\\s+public static final int (.+);");
    // 10 constants, the constructor, and a method for each of the promises 2 to 32.
    private static final int MEMBERS = 42;

    private static int wrong;

    public static void main(String[] args) throws Exception {
        Set<String> due = faceOfDocument();
        Set<String> found = faceOfClass();
        if (due.size() != MEMBERS) {
            tell("the document shows " + due.size() + " members, expected are " + MEMBERS);
        }
        due.stream().filter(member -> !found.contains(member)).forEach(member -> tell("the class has not: " + member));
        found.stream().filter(member -> !due.contains(member)).forEach(member -> tell("the document shows not: " + member));
        checkClasses();
        System.out.println("FaceTest: " + found.size() + " members, " + (wrong == 0 ? "all are as due" : wrong + " faults"));
        if (wrong != 0) {
            System.exit(1);
        }
    }

    private static void tell(String what) {
        wrong++;
        System.out.println(what);
    }

    private static Set<String> faceOfDocument() throws Exception {
        Set<String> face = new TreeSet<>();
        boolean isInside = false;
        for (String line : Files.readAllLines(Path.of("..", "shared", "DOC.md"))) {
            isInside = line.equals("public final class SpellScribe {") || isInside && !line.equals("}");
            Matcher constants = CONSTANTS.matcher(line);
            Matcher method = METHOD.matcher(line);
            if (isInside && constants.matches()) {
                face.addAll(Arrays.asList(constants.group(1).split(", ")));
            } else if (isInside && method.matches()) {
                String types = method.group(3).replaceAll("(\\w+) \\w+", "$1");
                face.add(signature(method.group(1) == null ? "" : method.group(1), method.group(2), types,
                    method.group(4) == null ? "" : method.group(4)));
            }
        }
        return face;
    }

    private static Set<String> faceOfClass() throws Exception {
        Set<String> face = new TreeSet<>();
        for (Field field : SpellScribe.class.getDeclaredFields()) {
            if (isSeen(field)) {
                boolean isConstant = field.getType() == int.class && isPublicAnd(Modifier.STATIC | Modifier.FINAL, field);
                face.add(isConstant ? field.getName() + " = " + field.getInt(null) : field.toString());
            }
        }
        for (Constructor<?> made : SpellScribe.class.getDeclaredConstructors()) {
            if (isSeen(made)) {
                face.add(isPublicAnd(0, made) ? signature("", "SpellScribe", names(made.getParameterTypes()),
                    names(made.getExceptionTypes())) : made.toString());
            }
        }
        for (Method method : SpellScribe.class.getDeclaredMethods()) {
            if (isSeen(method)) {
                face.add(isPublicAnd(0, method) ? signature(method.getReturnType().getSimpleName(), method.getName(),
                    names(method.getParameterTypes()), names(method.getExceptionTypes())) : method.toString());
            }
        }
        return face;
    }

    private static boolean isSeen(Member member) {
        return !Modifier.isPrivate(member.getModifiers()) && !member.isSynthetic();
    }

    private static boolean isPublicAnd(int others, Member member) {
        return member.getModifiers() == (Modifier.PUBLIC | others);
    }

    private static String names(Class<?>[] types) {
        return Arrays.stream(types).map(Class::getSimpleName).collect(Collectors.joining(", "));
    }

    private static String signature(String type, String name, String types, String exceptions) {
        return type + " " + name + "(" + types + ")" + (exceptions.isEmpty() ? "" : " throws " + exceptions);
    }

    private static void checkClasses() {
        if (SpellScribe.class.getModifiers() != (Modifier.PUBLIC | Modifier.FINAL)) {
            tell("the class has to be public and final, and nothing else");
        }
        if (SpellScribe.class.getSuperclass() != Object.class || SpellScribe.class.getInterfaces().length > 0) {
            tell("the class has neither a class nor an interface above it");
        }
        for (Class<?> inside : SpellScribe.class.getDeclaredClasses()) {
            int modifiers = inside.getModifiers();
            if (Modifier.isPublic(modifiers) || Modifier.isProtected(modifiers) || !Modifier.isStatic(modifiers)) {
                tell(inside.getSimpleName() + " has to be static, and private or package-visible");
            }
        }
    }
}
