import java.io.IOException;
import java.lang.reflect.Constructor;
import java.lang.reflect.Field;
import java.lang.reflect.Method;
import java.lang.reflect.Modifier;
import java.nio.file.Files;
import java.nio.file.Path;
import java.util.Arrays;
import java.util.HashSet;
import java.util.List;
import java.util.Set;
import java.util.TreeSet;
import java.util.regex.Matcher;
import java.util.regex.Pattern;

/** The public face of the document, and the rules of LANGUAGE.md that can be seen from outside or by words. */
public final class FaceTest {
    private static final List<String> METHODS = List.of(
        "int strip(int,int,int)", "int put(int,int,int)", "int copy(int,int,int,int,int)", "long told(int,int)",
        "int lay(int,int)", "int field(int,int)", "int hollow(int)", "int lake(int,int)", "int ground(int,int)",
        "int holds(int,int)", "int area(int,int)", "int pour(int,int)", "int level(int,int)", "int rise(int)",
        "int islands(int)", "long count(int)");
    private static final Path SOURCE = Path.of("src/main/java/LakeRelief.java");
    private static final List<String> FORBIDDEN = List.of("import", "package", "throw", "throws", "try", "catch",
        "synchronized", "assert", "->", "::", "Exact", "Object", "System.out", "equals", "hashCode", "toString");
    private static final int LONGEST_METHOD = 60;
    private static final int MOST_FIELDS = 20;
    private static final int MOST_PARAMETERS = 7;

    private final Checks checks = new Checks();

    public static void main(String[] args) throws IOException {
        FaceTest test = new FaceTest();
        test.constants();
        test.publicMembers();
        test.nothingElseIsSeen();
        test.classesInside();
        test.words();
        test.lengths();
        test.checks.end();
    }

    private void constants() {
        checks.due("BAD", -1, LakeRelief.BAD);
        checks.due("NO", -2, LakeRelief.NO);
        checks.due("NONE", -3, LakeRelief.NONE);
        checks.due("SEA", -5, LakeRelief.SEA);
    }

    private void publicMembers() {
        int modifiers = LakeRelief.class.getModifiers();
        checks.holds("public and final", Modifier.isPublic(modifiers) && Modifier.isFinal(modifiers));
        Set<String> methods = new TreeSet<>();
        for (Method method : LakeRelief.class.getDeclaredMethods()) {
            if (Modifier.isPublic(method.getModifiers())) {
                methods.add(signature(method));
            }
        }
        checks.holds("public methods: " + methods, methods.equals(new TreeSet<>(METHODS)));
        Set<String> constants = new TreeSet<>();
        for (Field field : LakeRelief.class.getFields()) {
            constants.add(field.getName());
        }
        checks.holds("public fields: " + constants, constants.equals(Set.of("BAD", "NO", "NONE", "SEA")));
        Constructor<?>[] constructors = LakeRelief.class.getDeclaredConstructors();
        checks.due("constructors", 1, constructors.length);
        checks.due("its parameters", 0, constructors[0].getParameterCount());
    }

    private static String signature(Method method) {
        StringBuilder text = new StringBuilder(method.getReturnType().getName() + " " + method.getName() + "(");
        Class<?>[] types = method.getParameterTypes();
        for (int i = 0; i < types.length; i++) {
            text.append(i == 0 ? "" : ",").append(types[i].getName());
        }
        return text.append(")").toString();
    }

    private void nothingElseIsSeen() {
        Set<String> names = new HashSet<>();
        for (String method : METHODS) {
            names.add(method.substring(method.indexOf(' ') + 1, method.indexOf('(')));
        }
        for (Method method : LakeRelief.class.getDeclaredMethods()) {
            boolean isPrivate = Modifier.isPrivate(method.getModifiers());
            checks.holds(method + " is public or private", isPrivate || Modifier.isPublic(method.getModifiers()));
            checks.holds(method + " has a name of its own", !isPrivate || !names.contains(method.getName()));
        }
        for (Field field : LakeRelief.class.getDeclaredFields()) {
            int modifiers = field.getModifiers();
            checks.holds(field + " is public or private", Modifier.isPrivate(modifiers) || Modifier.isPublic(modifiers));
            checks.holds(field + " is final if static", !Modifier.isStatic(modifiers) || Modifier.isFinal(modifiers));
        }
        for (Class<?> inside : LakeRelief.class.getDeclaredClasses()) {
            for (Method method : inside.getDeclaredMethods()) {
                checks.holds(method + " has a name of its own", !names.contains(method.getName()));
            }
        }
    }

    private void classesInside() {
        Class<?>[] inside = LakeRelief.class.getDeclaredClasses();
        checks.holds("classes: " + inside.length, inside.length < 12);
        for (Class<?> one : inside) {
            checks.holds(one + " is static", Modifier.isStatic(one.getModifiers()));
            checks.holds(one + " is not public", !Modifier.isPublic(one.getModifiers()));
            long fields = Arrays.stream(one.getDeclaredFields()).filter(f -> !Modifier.isStatic(f.getModifiers())).count();
            checks.holds(one + " has few fields", fields <= MOST_FIELDS);
            fewParameters(one);
        }
        fewParameters(LakeRelief.class);
    }

    private void fewParameters(Class<?> one) {
        for (Method method : one.getDeclaredMethods()) {
            checks.holds(method + " has few parameters", method.getParameterCount() <= MOST_PARAMETERS);
        }
    }

    private void words() throws IOException {
        String code = Files.readString(SOURCE).replaceAll("(?s)/\\*.*?\\*/", "").replaceAll("//[^\n]*", "");
        for (String word : FORBIDDEN) {
            boolean isWord = Character.isLetter(word.charAt(0));
            Pattern pattern = Pattern.compile(isWord ? "\\b" + Pattern.quote(word) + "\\b" : Pattern.quote(word));
            checks.holds("no " + word, !pattern.matcher(code).find());
        }
        checks.holds("no float", !Pattern.compile("\\b(double|float)\\b").matcher(code).find());
        Matcher made = Pattern.compile("\\bnew (\\w+)").matcher(code);
        while (made.find()) {
            Set<String> known = Set.of("int", "Strip", "Relief", "Lake", "Lakes");
            checks.holds("new " + made.group(1), known.contains(made.group(1)));
        }
    }

    // Methods stand one or two steps in, and their ends at the same step.
    private void lengths() throws IOException {
        List<String> lines = Files.readAllLines(SOURCE);
        int begin = -1;
        String step = "";
        for (int i = 0; i < lines.size(); i++) {
            String line = lines.get(i);
            if (begin < 0 && line.matches(" {4}( {4})?\\w.*\\) \\{")) {
                begin = i;
                step = line.substring(0, line.length() - line.stripLeading().length());
            } else if (begin >= 0 && line.equals(step + "}")) {
                checks.holds("short: " + lines.get(begin).strip(), i - begin < LONGEST_METHOD);
                begin = -1;
            }
            // All calls of a run share one room: what is made once for an object is not made again by a call.
            if (begin >= 0 && line.matches(".*\\bnew .*")) {
                checks.holds("made in a constructor: " + line.strip(), isConstructor(lines.get(begin)));
            }
        }
    }

    private static boolean isConstructor(String line) {
        return line.strip().matches("(public )?[A-Z]\\w*\\(.*\\) \\{");
    }
}
