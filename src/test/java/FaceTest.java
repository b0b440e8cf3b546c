import java.lang.reflect.Constructor;
import java.lang.reflect.Field;
import java.lang.reflect.Member;
import java.lang.reflect.Method;
import java.lang.reflect.Modifier;
import java.nio.file.Files;
import java.nio.file.Path;
import java.util.HashSet;
import java.util.Set;
import java.util.TreeSet;
import java.util.regex.Matcher;
import java.util.regex.Pattern;

/** The public face of DOC.md, and what LANGUAGE.md says of members and of the source. */
public final class FaceTest {
    private static final Check C = new Check("FaceTest");
    private static final Pattern METHOD = Pattern.compile("    public (int|float|double) (\\w+)\\((.*)\\);");
    private static final Pattern CONSTANT = Pattern.compile("    public static final int (\\w+) = (-?\\d+);");

    public static void main(String[] args) throws Exception {
        Path root = Path.of(args.length > 0 ? args[0] : ".");
        face(Files.readString(root.resolve("../shared/DOC.md")));
        members();
        source(Files.readString(root.resolve("src/main/java/TimeGaps.java")));
        C.finish();
    }

    private static void face(String document) throws Exception {
        C.part("the public face");
        Set<String> due = new TreeSet<>();
        for (String line : document.split("\n")) {
            Matcher method = METHOD.matcher(line);
            if (method.matches()) {
                String parameters = method.group(3).replaceAll("(\\w+) \\w+", "$1");
                due.add(method.group(1) + " " + method.group(2) + "(" + parameters + ")");
            }
            Matcher constant = CONSTANT.matcher(line);
            if (constant.matches()) {
                due.add(constant.group(1));
                C.is(constant.group(1), TimeGaps.class.getField(constant.group(1)).getInt(null),
                        Integer.parseInt(constant.group(2)));
            }
        }
        Set<String> got = new TreeSet<>();
        for (Method method : TimeGaps.class.getDeclaredMethods()) {
            if (!Modifier.isPrivate(method.getModifiers())) {
                C.isText(method.getName(), Modifier.toString(method.getModifiers()), "public");
                StringBuilder form = new StringBuilder(method.getReturnType() + " " + method.getName() + "(");
                for (int i = 0; i < method.getParameterCount(); i++) {
                    form.append(i == 0 ? "" : ", ").append(method.getParameterTypes()[i]);
                }
                got.add(form.append(")").toString());
            }
        }
        for (Field field : TimeGaps.class.getDeclaredFields()) {
            if (!Modifier.isPrivate(field.getModifiers())) {
                got.add(field.getName());
                C.isText(field.getName(), Modifier.toString(field.getModifiers()), "public static final");
            }
        }
        C.isText("members", got.toString(), due.toString());
        C.is("how many", due.size(), 6 + 57);
        C.isText("class", Modifier.toString(TimeGaps.class.getModifiers()), "public final");
        Constructor<?>[] constructors = TimeGaps.class.getDeclaredConstructors();
        C.is("constructors", constructors.length, 1);
        C.isText("constructor", constructors[0].toString(), "public TimeGaps()");
    }

    private static void members() {
        C.part("LANGUAGE.md, rules 1, 5 and 11");
        Set<String> publics = new HashSet<>();
        for (Method method : TimeGaps.class.getMethods()) {
            publics.add(method.getName());
        }
        Class<?>[] nested = TimeGaps.class.getDeclaredClasses();
        C.is("few classes", nested.length < 12 ? 1 : 0, 1);
        names(TimeGaps.class, publics);
        for (Class<?> inner : nested) {
            C.isText(inner.getName(), Modifier.toString(inner.getModifiers()), "private static final");
            names(inner, publics);
        }
    }

    private static void names(Class<?> owner, Set<String> publics) {
        for (Method method : owner.getDeclaredMethods()) {
            if (Modifier.isPrivate(method.getModifiers())) {
                C.is(owner.getName() + "." + method.getName() + " has a name of its own",
                        publics.contains(method.getName()) ? 1 : 0, 0);
            }
            C.is(method.getName() + " has few parameters", method.getParameterCount() <= 7 ? 1 : 0, 1);
        }
        int fields = 0;
        for (Field field : owner.getDeclaredFields()) {
            boolean isStatic = isStatic(field);
            fields += isStatic ? 0 : 1;
            C.is(field.getName() + " is final if static", !isStatic || Modifier.isFinal(field.getModifiers()) ? 1 : 0, 1);
        }
        C.is(owner.getName() + " has few fields", fields <= 20 ? 1 : 0, 1);
    }

    private static boolean isStatic(Member member) {
        return Modifier.isStatic(member.getModifiers());
    }

    private static void source(String source) {
        C.part("LANGUAGE.md, the source");
        String code = source.replaceAll("(?s)/\\*.*?\\*/", "").replaceAll("//[^\n]*", "");
        String[] none = {"\\bthrow\\b", "\\bcatch\\b", "\\btry\\b", "\\bfinally\\b", "\\bimport\\b", "\\bpackage\\b",
            "\\bassert\\b", "\\bsynchronized\\b", "\\binstanceof\\b", "->", "::", "Exact\\(", "static \\{",
            "\\bequals\\(", "\\bhashCode\\b", "\\btoString\\b", "\\bnull\\b", "\" \\+", "\\+ \"",
            "Math\\.(?!max|min|abs|floorDiv|floorMod)", "System\\.(?!arraycopy)", "Integer", "Object"};
        for (String word : none) {
            C.is("no " + word, Pattern.compile(word).matcher(code).find() ? 1 : 0, 0);
        }
        C.is("ASCII alone", source.chars().allMatch(c -> c == '\n' || c >= 32 && c < 127) ? 1 : 0, 1);
        methods(source);
    }

    /** Members stand four or eight spaces in; none is longer than sixty lines. */
    private static void methods(String source) {
        String[] lines = source.split("\n");
        int begin = 0;
        for (int i = 0; i < lines.length; i++) {
            if (lines[i].matches("( {4}| {8})[a-z].*\\) \\{")) {
                begin = i;
            }
            if (lines[i].matches(" {4}\\}| {8}\\}") && begin > 0) {
                C.is("line " + (begin + 1) + " begins a short method", i - begin < 60 ? 1 : 0, 1);
                begin = 0;
            }
        }
    }
}
