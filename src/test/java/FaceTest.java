import java.io.IOException;
import java.lang.reflect.Constructor;
import java.lang.reflect.Field;
import java.lang.reflect.Method;
import java.lang.reflect.Modifier;
import java.nio.file.Files;
import java.nio.file.Path;
import java.util.Set;
import java.util.TreeSet;

/** Holds the members of the class against the public face in the document, whose path is the argument. */
final class FaceTest {
    private FaceTest() {
    }

    public static void main(String[] args) throws IOException {
        Tally tally = new Tally("FaceTest");
        Class<?> type = SquirrelPool.class;
        tally.check(Modifier.isPublic(type.getModifiers()) && Modifier.isFinal(type.getModifiers()), "public, final");
        tally.check(type.getSuperclass() == Object.class && type.getInterfaces().length == 0, "extends nothing");
        Set<String> due = dueMethods(args[0]);
        tally.check(due.size() == 67, "the document's face has " + due.size() + " methods");
        Set<String> names = new TreeSet<>();
        Set<String> got = new TreeSet<>();
        for (Method method : type.getDeclaredMethods()) {
            if (Modifier.isPublic(method.getModifiers())) {
                got.add(told(method));
                names.add(method.getName());
            }
        }
        for (String method : due) {
            tally.check(got.contains(method), "missing: " + method);
        }
        for (String method : got) {
            tally.check(due.contains(method), "not in the document: " + method);
        }
        checkTheRestIsPrivate(tally, type, names);
        tally.end();
    }

    private static void checkTheRestIsPrivate(Tally tally, Class<?> type, Set<String> names) {
        for (Method method : type.getDeclaredMethods()) {
            if (!Modifier.isPublic(method.getModifiers())) {
                tally.check(Modifier.isPrivate(method.getModifiers()), method.getName() + " is not private");
                tally.check(!names.contains(method.getName()), method.getName() + " bears a public name");
            }
        }
        for (Field field : type.getDeclaredFields()) {
            tally.check(Modifier.isPrivate(field.getModifiers()), field.getName() + " is not private");
        }
        Constructor<?>[] made = type.getDeclaredConstructors();
        tally.check(made.length == 1 && made[0].getParameterCount() == 0, "one constructor, without parameters");
        tally.check(Modifier.isPublic(made[0].getModifiers()), "the constructor is public");
        for (Class<?> inside : type.getDeclaredClasses()) {
            int modifiers = inside.getModifiers();
            tally.check(Modifier.isStatic(modifiers) && !Modifier.isPublic(modifiers)
                    && !Modifier.isProtected(modifiers), inside.getName() + " is static, and not open");
        }
    }

    private static Set<String> dueMethods(String document) throws IOException {
        Set<String> due = new TreeSet<>();
        for (String line : Files.readAllLines(Path.of(document))) {
            String text = line.strip();
            if (line.startsWith("    public ") && text.endsWith(";") && !text.contains("SquirrelPool(")) {
                due.add(text.substring(7, text.length() - 1).replaceAll("int \\w+([,)])", "int$1"));
            }
        }
        return due;
    }

    private static String told(Method method) {
        StringBuilder text = new StringBuilder(method.getReturnType().getName()).append(' ').append(method.getName());
        text.append('(');
        for (int i = 0; i < method.getParameterCount(); i++) {
            text.append(i == 0 ? "" : ", ").append(method.getParameterTypes()[i].getName());
        }
        text.append(')');
        for (int i = 0; i < method.getExceptionTypes().length; i++) {
            text.append(i == 0 ? " throws " : ", ").append(method.getExceptionTypes()[i].getSimpleName());
        }
        return text.toString();
    }
}
