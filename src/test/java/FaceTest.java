import java.io.IOException;
import java.lang.reflect.Constructor;
import java.lang.reflect.Field;
import java.lang.reflect.Member;
import java.lang.reflect.Method;
import java.lang.reflect.Modifier;
import java.nio.file.Files;
import java.nio.file.Path;
import java.util.ArrayList;
import java.util.Arrays;
import java.util.List;
import java.util.Set;
import java.util.TreeSet;
import java.util.regex.Matcher;
import java.util.regex.Pattern;

/** The face is that of the document, and the source keeps to the rules of the language that a scan can see. */
public final class FaceTest {
    private static final Path DOCUMENT = Path.of("../shared/DOC.md");
    private static final Path SOURCE = Path.of("src/main/java/TeaspoonSalon.java");
    private static final String[] FORBIDDEN = {
        "->", "::", "\\btry\\b", "\\bcatch\\b", "\\bfinally\\b", "\\bsynchronized\\b", "\\bassert\\b", "Exact\\(",
        "\\bSystem\\.(?!arraycopy)", "\\bString\\.", "\\bstatic\\s*\\{", "\\bpackage\\b", "import (?!java.util.NoSuch)",
        "\\bMath\\.(?!(abs|min|max|floorMod)\\b)", "\\b(Integer|Long)\\.(?!bitCount\\b)", "\"\\s*\\+", "\\+\\s*\"",
        "\\b(equals|hashCode|toString)\\(", "\\bthrow (?!new \\w+Exception\\(\"[^\"]*\"\\);)",
    };
    private static final int MOST_PARAMETERS = 7;
    private static final int MOST_FIELDS = 20;
    private static final int MOST_LINES = 60;

    public static void main(String[] args) throws IOException {
        Check check = new Check();
        Set<String> promised = promisedFace();
        check.due("methods of the document", 60, promised.size());
        check.due("public methods", promised, publicFace());
        check.due("public constructors", 1, TeaspoonSalon.class.getConstructors().length);
        check.due("modifiers", Modifier.PUBLIC | Modifier.FINAL, TeaspoonSalon.class.getModifiers());
        check.due("members seen that are not of the face", List.of(), visibleOthers());
        check.due("private methods with a public name", List.of(), sharedNames());
        check.due("methods with too many parameters", List.of(), withTooManyParameters());
        check.due("classes with too many fields", List.of(), withTooManyFields());
        scanSource(check);
        check.end();
    }

    private static Set<String> promisedFace() throws IOException {
        Set<String> face = new TreeSet<>();
        Matcher line = Pattern.compile("(?m)^    public (\\w+ \\w+\\(.*);$").matcher(Files.readString(DOCUMENT));
        while (line.find()) {
            face.add(withoutParameterNames(line.group(1)));
        }
        return face;
    }

    private static String withoutParameterNames(String declaration) {
        int end = declaration.indexOf(')');
        return declaration.substring(0, end).replaceAll("([(,] ?\\w+) \\w+", "$1") + declaration.substring(end);
    }

    private static Set<String> publicFace() {
        Set<String> face = new TreeSet<>();
        for (Method method : TeaspoonSalon.class.getDeclaredMethods()) {
            if (Modifier.isPublic(method.getModifiers())) {
                face.add(described(method));
            }
        }
        return face;
    }

    private static String described(Method method) {
        String text = method.getReturnType() + " " + method.getName() + "(" + names(method.getParameterTypes()) + ")";
        return method.getExceptionTypes().length == 0 ? text : text + " throws " + names(method.getExceptionTypes());
    }

    private static String names(Class<?>[] types) {
        List<String> names = new ArrayList<>();
        for (Class<?> type : types) {
            names.add(type.getSimpleName());
        }
        return String.join(", ", names);
    }

    private static List<String> visibleOthers() {
        List<Member> members = new ArrayList<>();
        members.addAll(Arrays.asList(TeaspoonSalon.class.getDeclaredFields()));
        members.addAll(Arrays.asList(TeaspoonSalon.class.getDeclaredMethods()));
        members.addAll(Arrays.asList(TeaspoonSalon.class.getDeclaredConstructors()));
        List<String> others = new ArrayList<>();
        for (Member member : members) {
            boolean isOfFace = Modifier.isPublic(member.getModifiers()) && !(member instanceof Field);
            if (!member.isSynthetic() && !Modifier.isPrivate(member.getModifiers()) && !isOfFace) {
                others.add(member.getName());
            }
        }
        for (Constructor<?> constructor : TeaspoonSalon.class.getConstructors()) {
            if (constructor.getParameterCount() != 0) {
                others.add(constructor.toString());
            }
        }
        return others;
    }

    private static List<String> sharedNames() {
        Set<String> names = new TreeSet<>();
        for (Method method : TeaspoonSalon.class.getMethods()) {
            if (method.getDeclaringClass() == TeaspoonSalon.class) {
                names.add(method.getName());
            }
        }
        List<String> shared = new ArrayList<>();
        for (Class<?> type : classes()) {
            for (Method method : type.getDeclaredMethods()) {
                if (!Modifier.isPublic(method.getModifiers()) && names.contains(method.getName())) {
                    shared.add(type.getSimpleName() + "." + method.getName());
                }
            }
        }
        return shared;
    }

    private static List<Class<?>> classes() {
        List<Class<?>> classes = new ArrayList<>(Arrays.asList(TeaspoonSalon.class.getDeclaredClasses()));
        classes.add(TeaspoonSalon.class);
        return classes;
    }

    private static List<String> withTooManyParameters() {
        List<String> names = new ArrayList<>();
        for (Class<?> type : classes()) {
            for (Method method : type.getDeclaredMethods()) {
                if (method.getParameterCount() > MOST_PARAMETERS) {
                    names.add(type.getSimpleName() + "." + method.getName());
                }
            }
        }
        return names;
    }

    private static List<String> withTooManyFields() {
        List<String> names = new ArrayList<>();
        for (Class<?> type : classes()) {
            long fields = Arrays.stream(type.getDeclaredFields())
                    .filter(field -> !Modifier.isStatic(field.getModifiers())).count();
            if (fields > MOST_FIELDS) {
                names.add(type.getSimpleName());
            }
        }
        return names;
    }

    /** A method's first line stands at the depth of its class and ends with a brace, its last one is a brace below it. */
    private static List<String> longMethods(String source) {
        List<String> names = new ArrayList<>();
        Pattern firstLine = Pattern.compile("(?m)^((?: {4}){1,2})(?=\\w)(?!.*\\b(class|enum|interface) )(.*\\{)$");
        Matcher method = firstLine.matcher(source);
        while (method.find()) {
            int end = source.indexOf("\n" + method.group(1) + "}\n", method.end());
            if (end < 0 || source.substring(method.start(), end).lines().count() >= MOST_LINES) {
                names.add(method.group(3));
            }
        }
        return names;
    }

    private static void scanSource(Check check) throws IOException {
        String source = Files.readString(SOURCE);
        String code = source.replaceAll("(?s)/\\*.*?\\*/", "").replaceAll("//.*", "");
        for (String forbidden : FORBIDDEN) {
            check.due("source with " + forbidden, false, Pattern.compile(forbidden).matcher(code).find());
        }
        check.due("signs outside ASCII", true, source.chars().allMatch(sign -> sign == '\n' || sign >= 32 && sign < 127));
        check.due("long methods", List.of(), longMethods(source));
        check.due("at most twelve classes", true, code.split("\\b(class|enum|interface|record)\\s+[A-Z]").length <= 13);
    }
}
