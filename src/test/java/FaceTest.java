import java.lang.reflect.Constructor;
import java.lang.reflect.Field;
import java.lang.reflect.Method;
import java.lang.reflect.Modifier;
import java.nio.file.Files;
import java.nio.file.Path;
import java.util.ArrayList;
import java.util.HashSet;
import java.util.List;
import java.util.Set;
import java.util.TreeSet;

/** The public face: just the members that the document lists, and no other that can be seen. */
public final class FaceTest {
    public static void main(String[] args) throws Exception {
        membersAreThoseOfTheDocument();
        noOtherMemberIsVisible();
        namesOfTheFaceAreUsedOnce();
        Check.end();
    }

    private static void membersAreThoseOfTheDocument() throws Exception {
        Set<String> listed = new TreeSet<>();
        for (String line : Files.readAllLines(Path.of("../shared/DOC.md"))) {
            if (line.startsWith("    public ") && line.endsWith(";")) {
                listed.add(withoutNames(line.trim()));
            }
        }
        Set<String> found = new TreeSet<>();
        for (Method method : TollClock.class.getDeclaredMethods()) {
            if (Modifier.isPublic(method.getModifiers())) {
                found.add("public " + method.getReturnType() + " " + method.getName()
                        + rest(method.getParameterTypes(), method.getExceptionTypes()));
            }
        }
        for (Constructor<?> constructor : TollClock.class.getConstructors()) {
            found.add("public TollClock" + rest(constructor.getParameterTypes(), constructor.getExceptionTypes()));
        }
        Check.is("members", String.join("\n", listed), String.join("\n", found));
        Check.is("number of members", 63, found.size());
        Check.is("the class is public and final", Modifier.PUBLIC | Modifier.FINAL, TollClock.class.getModifiers());
    }

    /** A parameter's name is not to be seen in the class, so it is left out of the document's line. */
    private static String withoutNames(String line) {
        return line.replaceAll("(int|char|boolean) [a-zA-Z]+(?=[,)])", "$1").replace(";", "");
    }

    private static String rest(Class<?>[] parameters, Class<?>[] exceptions) {
        String thrown = simpleNames(exceptions);
        return "(" + simpleNames(parameters) + ")" + (thrown.isEmpty() ? "" : " throws " + thrown);
    }

    private static String simpleNames(Class<?>[] classes) {
        List<String> names = new ArrayList<>();
        for (Class<?> one : classes) {
            names.add(one.getSimpleName());
        }
        return String.join(", ", names);
    }

    private static void noOtherMemberIsVisible() {
        for (Field field : TollClock.class.getDeclaredFields()) {
            Check.is("field " + field.getName() + " is private", true, Modifier.isPrivate(field.getModifiers()));
        }
        for (Method method : TollClock.class.getDeclaredMethods()) {
            int modifiers = method.getModifiers();
            Check.is("method " + method.getName() + " is public or private", true,
                    Modifier.isPrivate(modifiers) || Modifier.isPublic(modifiers));
        }
    }

    private static void namesOfTheFaceAreUsedOnce() {
        Set<String> face = new HashSet<>();
        for (Method method : TollClock.class.getMethods()) {
            if (method.getDeclaringClass() == TollClock.class) {
                face.add(method.getName());
            }
        }
        List<Class<?>> all = new ArrayList<>(List.of(TollClock.class.getDeclaredClasses()));
        all.add(TollClock.class);
        for (Class<?> one : all) {
            for (Method method : one.getDeclaredMethods()) {
                boolean clash = !Modifier.isPublic(method.getModifiers()) && face.contains(method.getName());
                Check.is("a name of the face for " + one.getSimpleName() + "." + method.getName(), false, clash);
            }
        }
        Check.is("at most twelve classes", true, all.size() <= 12);
    }
}
