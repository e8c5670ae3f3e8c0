import java.lang.reflect.Constructor;
import java.lang.reflect.Field;
import java.lang.reflect.Method;
import java.lang.reflect.Modifier;
import java.nio.file.Files;
import java.nio.file.Path;
import java.util.List;
import java.util.Set;
import java.util.TreeSet;
import java.util.regex.Matcher;
import java.util.regex.Pattern;

/** What of LANGUAGE.md and the document's face can be seen by reflection and by the source. */
public final class LanguageTest {
    private static final Path SOURCE = Path.of("src/main/java/OddShoes.java");

    private static final Set<String> FACE = Set.of(
            "int towns(int)", "int road(int,int,int,int)", "int shop(int,int,int)",
            "int stock(int,int,int)", "int person(int,int,int,int,int)", "int leave(int)",
            "int set(int,int)", "int say(int)", "int wipe()", "int fault()", "int judge(int)",
            "int done()", "int state(int,int)", "int behind(int,int)", "int trodden(int,int,int)",
            "int givesOut(int,int)", "int far(int,int,int)", "int way(int,int,int)",
            "int shod(int,int)", "int round(int,int,int)", "int together(int,int,int,int)",
            "int parted(int,int,int)", "int pairs(int,int,int,int)", "int rests(int)",
            "int owner(int)", "int track(int,int,int)", "int seen(int,int)", "int forget()",
            "int filled(int)", "int spy(int)", "long shut(int,int,int)", "int year(int,int,int)",
            "int image(int)", "int restore(int)", "int told(int)");

    private static final Set<String> CONSTANTS =
            Set.of("NONE", "UNKNOWN", "OUTSIDE", "STATE", "FULL", "NO", "LOST");

    /** Words that no rule leaves, or that this class has no need of. */
    private static final List<String> NOT_WANTED = List.of("\\bimport\\b", "\\bpackage\\b", "->", "::",
            "\\bsynchronized\\b", "\\bassert\\b", "\\bfinally\\b", "\\btry\\b", "\\bcatch\\b",
            "\\bthrows?\\b(?! new )", "\\bprotected\\b", "\\binstanceof\\b", "\\bdouble\\b",
            "\\bfloat\\b", "\\bSystem\\b", "\\bwhile\\b", "\\bvar\\b", "Exact\\b", "\\bstatic \\{");

    private static final Script SCRIPT = new Script();

    private LanguageTest() {
    }

    public static void main(String[] args) throws Exception {
        checkFace();
        Class<?>[] inside = OddShoes.class.getDeclaredClasses();
        SCRIPT.expect("some twelve classes", inside.length + 1 <= 12);
        checkMembers(OddShoes.class);
        for (Class<?> one : inside) {
            int modifiers = one.getModifiers();
            SCRIPT.expect(one + " is static, not public",
                    Modifier.isStatic(modifiers) && !Modifier.isPublic(modifiers)
                            && !Modifier.isProtected(modifiers));
            checkMembers(one);
        }
        checkSource();
        SCRIPT.end();
    }

    private static void checkFace() {
        Set<String> found = new TreeSet<>();
        for (Method method : OddShoes.class.getDeclaredMethods()) {
            if (!Modifier.isPrivate(method.getModifiers())) {
                found.add(signature(method));
                SCRIPT.expect(method + " is a public one of an object",
                        (method.getModifiers() & ~Modifier.FINAL) == Modifier.PUBLIC);
            }
        }
        SCRIPT.expect("the methods are those of the face: " + found, found.equals(FACE));
        Set<String> constants = new TreeSet<>();
        for (Field field : OddShoes.class.getDeclaredFields()) {
            if (!Modifier.isPrivate(field.getModifiers())) {
                constants.add(field.getName());
            }
        }
        SCRIPT.expect("the constants are those of the face: " + constants, constants.equals(CONSTANTS));
        Constructor<?>[] constructors = OddShoes.class.getDeclaredConstructors();
        SCRIPT.expect("one constructor", constructors.length == 1
                && constructors[0].getParameterCount() == 0
                && Modifier.isPublic(constructors[0].getModifiers()));
        int modifiers = OddShoes.class.getModifiers();
        SCRIPT.expect("public and final", Modifier.isPublic(modifiers) && Modifier.isFinal(modifiers));
    }

    private static String signature(Method method) {
        StringBuilder text = new StringBuilder();
        text.append(method.getReturnType()).append(' ').append(method.getName()).append('(');
        for (int i = 0; i < method.getParameterCount(); i++) {
            text.append(i == 0 ? "" : ",").append(method.getParameterTypes()[i]);
        }
        return text.append(')').toString();
    }

    private static void checkMembers(Class<?> one) {
        int fields = 0;
        for (Field field : one.getDeclaredFields()) {
            boolean isStatic = Modifier.isStatic(field.getModifiers());
            fields += isStatic ? 0 : 1;
            SCRIPT.expect(field + " is final", !isStatic || Modifier.isFinal(field.getModifiers()));
        }
        SCRIPT.expect(one + " has some twenty fields", fields <= 20);
        for (Method method : one.getDeclaredMethods()) {
            SCRIPT.expect(method + " takes seven at most", method.getParameterCount() <= 7);
            boolean isOfFace = Modifier.isPublic(method.getModifiers());
            for (String face : FACE) {
                boolean isNamedSo = face.contains(" " + method.getName() + "(");
                SCRIPT.expect(method + " bears a name of the face", isOfFace || !isNamedSo);
            }
        }
    }

    private static void checkSource() throws Exception {
        List<String> lines = Files.readAllLines(SOURCE);
        String code = withoutComments(String.join("\n", lines));
        for (String word : NOT_WANTED) {
            Matcher matcher = Pattern.compile(word).matcher(code);
            SCRIPT.expect("the source has " + word, !matcher.find());
        }
        int begun = 0;
        for (int i = 0; i < lines.size(); i++) {
            String line = lines.get(i);
            SCRIPT.expect("line " + (i + 1) + " is too long", line.length() <= 100);
            SCRIPT.expect("line " + (i + 1) + " has a strange sign", line.matches("[ -~]*"));
            if (line.matches(" {4,8}\\S.*\\) \\{")) {
                begun = i;
            }
            if (line.matches(" {4,8}\\}")) {
                SCRIPT.expect("the method at line " + (begun + 1) + " is long", i - begun < 60 || begun == 0);
                begun = 0;
            }
        }
    }

    private static String withoutComments(String code) {
        return code.replaceAll("(?s)/\\*.*?\\*/", "").replaceAll("//[^\n]*", "");
    }
}
