import java.io.IOException;
import java.lang.reflect.Constructor;
import java.lang.reflect.Field;
import java.lang.reflect.Member;
import java.lang.reflect.Method;
import java.lang.reflect.Modifier;
import java.nio.file.Files;
import java.nio.file.Path;
import java.util.ArrayList;
import java.util.Arrays;
import java.util.List;
import java.util.Set;
import java.util.TreeSet;
import java.util.regex.Matcher;
import java.util.regex.Pattern;

/** The face is that of the document, and the source keeps to the rules of the language that a scan can see. */
public final class FaceTest {
    private static final Path DOCUMENT = Path.of("../shared/DOC.md");
    private static final Path SOURCE = Path.of("src/main/java/TeaspoonSalon.java");
    private static final String[] FORBIDDEN = {
        "->", "::", "\\bcatch\\b", "\\bfinally\\b", "\\bsynchronized\\b", "\\bassert\\b", "Exact\\(",
        "\\bSystem\\.(?!arraycopy)", "\\bString\\.", "\\bstatic\\s*\\{", "\\bpackage\\b", "import (?!java.util.NoSuch)",
    };

    public static void main(String[] args) throws IOException {
        Check check = new Check();
        Set<String> promised = promisedFace();
        check.due("methods of the document", 60, promised.size());
        check.due("public methods", promised, publicFace());
        check.due("public constructors", 1, TeaspoonSalon.class.getConstructors().length);
        check.due("modifiers", Modifier.PUBLIC | Modifier.FINAL, TeaspoonSalon.class.getModifiers());
        check.due("members seen that are not of the face", List.of(), visibleOthers());
        check.due("private methods with a public name", List.of(), sharedNames());
        scanSource(check);
        check.end();
    }

    private static Set<String> promisedFace() throws IOException {
        Set<String> face = new TreeSet<>();
        Matcher line = Pattern.compile("(?m)^    public (\\w+ \\w+\\(.*);$").matcher(Files.readString(DOCUMENT));
        while (line.find()) {
            face.add(withoutParameterNames(line.group(1)));
        }
        return face;
    }

    private static String withoutParameterNames(String declaration) {
        int end = declaration.indexOf(')');
        return declaration.substring(0, end).replaceAll("([(,] ?\\w+) \\w+", "$1") + declaration.substring(end);
    }

    private static Set<String> publicFace() {
        Set<String> face = new TreeSet<>();
        for (Method method : TeaspoonSalon.class.getDeclaredMethods()) {
            if (Modifier.isPublic(method.getModifiers())) {
                face.add(described(method));
            }
        }
        return face;
    }

    private static String described(Method method) {
        String text = method.getReturnType() + " " + method.getName() + "(" + names(method.getParameterTypes()) + ")";
        return method.getExceptionTypes().length == 0 ? text : text + " throws " + names(method.getExceptionTypes());
    }

    private static String names(Class<?>[] types) {
        List<String> names = new ArrayList<>();
        for (Class<?> type : types) {
            names.add(type.getSimpleName());
        }
        return String.join(", ", names);
    }

    private static List<String> visibleOthers() {
        List<Member> members = new ArrayList<>();
        members.addAll(Arrays.asList(TeaspoonSalon.class.getDeclaredFields()));
        members.addAll(Arrays.asList(TeaspoonSalon.class.getDeclaredMethods()));
        members.addAll(Arrays.asList(TeaspoonSalon.class.getDeclaredConstructors()));
        List<String> others = new ArrayList<>();
        for (Member member : members) {
            boolean isOfFace = Modifier.isPublic(member.getModifiers()) && !(member instanceof Field);
            if (!member.isSynthetic() && !Modifier.isPrivate(member.getModifiers()) && !isOfFace) {
                others.add(member.getName());
            }
        }
        for (Constructor<?> constructor : TeaspoonSalon.class.getConstructors()) {
            if (constructor.getParameterCount() != 0) {
                others.add(constructor.toString());
            }
        }
        return others;
    }

    private static List<String> sharedNames() {
        Set<String> names = new TreeSet<>();
        for (Method method : TeaspoonSalon.class.getMethods()) {
            if (method.getDeclaringClass() == TeaspoonSalon.class) {
                names.add(method.getName());
            }
        }
        List<String> shared = new ArrayList<>();
        List<Class<?>> classes = new ArrayList<>(Arrays.asList(TeaspoonSalon.class.getDeclaredClasses()));
        classes.add(TeaspoonSalon.class);
        for (Class<?> type : classes) {
            for (Method method : type.getDeclaredMethods()) {
                if (!Modifier.isPublic(method.getModifiers()) && names.contains(method.getName())) {
                    shared.add(type.getSimpleName() + "." + method.getName());
                }
            }
        }
        return shared;
    }

    private static void scanSource(Check check) throws IOException {
        String source = Files.readString(SOURCE);
        String code = source.replaceAll("(?s)/\\*.*?\\*/", "").replaceAll("//.*", "");
        for (String forbidden : FORBIDDEN) {
            check.due("source with " + forbidden, false, Pattern.compile(forbidden).matcher(code).find());
        }
        check.due("signs outside ASCII", true, source.chars().allMatch(sign -> sign == '\n' || sign >= 32 && sign < 127));
        check.due("at most twelve classes", true, code.split("\\b(class|enum|interface|record)\\s+[A-Z]").length <= 13);
    }
}
