import java.lang.reflect.Constructor;
import java.lang.reflect.Field;
import java.lang.reflect.Method;
import java.lang.reflect.Modifier;
import java.io.IOException;
import java.nio.file.Files;
import java.nio.file.Path;
import java.util.Set;
import java.util.TreeSet;
import java.util.regex.Pattern;

/** The public face of the document, and those rules of LANGUAGE.md that a look at the file can tell. */
public final class FaceTest {
    private static final String[] FACE = {
        "int NONE", "int BAD_INDEX", "int BAD_VALUE", "int BAD_STATE", "int FULL", "new 0",
        "int addThruster 6", "int setState 2", "int thrusters 0", "int thruster 2", "int unit 2", "int determinant 3",
        "int refuel 2", "int fuel 1", "int forbid 1", "int allow 1", "int isForbidden 1", "int select 3", "int pulse 4",
        "int price 3", "int request 3", "int urge 3", "int cancel 1", "int queued 0", "int requested 2", "int cycle 0",
        "int cycles 1", "int cycleCount 0", "int fired 1", "int impulse 2", "long total 1", "int suspect 3",
        "int undo 0", "int type 1", "int clearText 0", "int textFault 0", "int load 0", "long digest 0",
    };

    private static final String[] FORBIDDEN = {
        "throw", "throws", "try", "catch", "synchronized", "assert", "instanceof\\s+\\w+\\s*\\(", "->", "::", "protected",
        "System\\.(?!arraycopy)", "\\w+Exact\\b", "import (?!java\\.util\\.(Arrays|ArrayList|List|Iterator);)", "static\\s*\\{",
    };

    public static void main(String[] args) throws IOException {
        members();
        constants();
        words();
        Checks.end();
    }

    private static void members() {
        Set<String> found = new TreeSet<>();
        Set<String> publicNames = new TreeSet<>();
        for (Field f : ThrusterSelector.class.getDeclaredFields()) {
            if (!Modifier.isPrivate(f.getModifiers())) {
                found.add(f.getType() + " " + f.getName());
            }
        }
        for (Constructor<?> c : ThrusterSelector.class.getDeclaredConstructors()) {
            found.add("new " + c.getParameterCount());
        }
        for (Method m : ThrusterSelector.class.getDeclaredMethods()) {
            if (!Modifier.isPrivate(m.getModifiers())) {
                publicNames.add(m.getName());
                found.add(m.getReturnType() + " " + m.getName() + " " + m.getParameterCount());
            }
        }
        if (!found.equals(new TreeSet<>(Set.of(FACE)))) {
            Checks.due("the face " + found, found.size(), FACE.length);
            Checks.due("the face is the document's", 0, 1);
        }
        for (Method m : ThrusterSelector.class.getDeclaredMethods()) {
            if (Modifier.isPrivate(m.getModifiers()) && publicNames.contains(m.getName())) {
                Checks.due("a private method is named " + m.getName(), 1, 0);
            }
        }
        for (Class<?> c : ThrusterSelector.class.getDeclaredClasses()) {
            Checks.due(c + " is static", Modifier.isStatic(c.getModifiers()) ? 1 : 0, 1);
        }
    }

    private static void constants() {
        Checks.due("NONE", ThrusterSelector.NONE, -2000000000);
        Checks.due("BAD_INDEX", ThrusterSelector.BAD_INDEX, -2000000001);
        Checks.due("BAD_VALUE", ThrusterSelector.BAD_VALUE, -2000000002);
        Checks.due("BAD_STATE", ThrusterSelector.BAD_STATE, -2000000003);
        Checks.due("FULL", ThrusterSelector.FULL, -2000000004);
    }

    private static void words() throws IOException {
        String source = Files.readString(Path.of("src/main/java/ThrusterSelector.java"));
        String code = source.replaceAll("//[^\n]*|/\\*(?s:.*?)\\*/", " ");
        for (String word : FORBIDDEN) {
            String pattern = word.matches("[a-z]+") ? "\\b" + word + "\\b" : word;
            if (Pattern.compile(pattern).matcher(code).find()) {
                Checks.due("the file holds " + word, 1, 0);
            }
        }
    }
}
