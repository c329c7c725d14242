import java.io.IOException;
import java.lang.reflect.Constructor;
import java.lang.reflect.Field;
import java.lang.reflect.Member;
import java.lang.reflect.Method;
import java.lang.reflect.Modifier;
import java.nio.charset.StandardCharsets;
import java.nio.file.Files;
import java.nio.file.Path;
import java.util.ArrayList;
import java.util.Arrays;
import java.util.List;
import java.util.Map;
import java.util.TreeMap;
import java.util.TreeSet;
import java.util.regex.Matcher;
import java.util.regex.Pattern;

/** The face as the document prints it, and what of LANGUAGE.md can be seen by a plain look. Run beside ../shared. */
public final class FormTest {
    private static final Path SOURCE = Path.of("src/main/java/ShadowSpaces.java");
    private static final Path DOCUMENT = Path.of("../shared/DOC.md");

    private FormTest() {
    }

    public static void main(String[] args) throws IOException {
        face();
        members();
        words();
        sizes();
        depths();
        Check.finish();
    }

    private static void face() throws IOException {
        String text = Files.readString(DOCUMENT, StandardCharsets.UTF_8);
        String printed = text.substring(text.indexOf("public final class"), text.indexOf("## Terms"));
        TreeSet<String> due = new TreeSet<>();
        Matcher m = Pattern.compile("public (\\w+ \\w+)\\((.*?)\\)( throws \\w+)?;").matcher(printed);
        while (m.find()) {
            due.add(m.group(1) + "(" + m.group(2).replaceAll("(\\w+) \\w+", "$1") + ")" + (m.group(3) == null ? "" : m.group(3)));
        }
        TreeSet<String> got = new TreeSet<>();
        for (Method method : ShadowSpaces.class.getDeclaredMethods()) {
            if (Modifier.isPublic(method.getModifiers())) {
                got.add(shown(method));
            }
        }
        Check.due("calls of the face", got.toString(), due.toString());
        Check.due("46 calls", due.size(), 46);
        int modifiers = ShadowSpaces.class.getModifiers();
        Check.due("public and final", Modifier.isPublic(modifiers) && Modifier.isFinal(modifiers), true);
    }

    private static String shown(Method method) {
        List<String> types = new ArrayList<>();
        for (Class<?> type : method.getParameterTypes()) {
            types.add(type.getSimpleName());
        }
        String thrown = method.getExceptionTypes().length == 0 ? "" : " throws " + method.getExceptionTypes()[0].getSimpleName();
        return method.getReturnType().getSimpleName() + " " + method.getName() + "(" + String.join(", ", types) + ")" + thrown;
    }

    private static void members() {
        TreeSet<String> names = new TreeSet<>();
        List<Member> hidden = new ArrayList<>();
        for (Method method : ShadowSpaces.class.getDeclaredMethods()) {
            if (Modifier.isPublic(method.getModifiers())) {
                names.add(method.getName());
            } else if (!method.isSynthetic()) {
                hidden.add(method);
            }
        }
        for (Field field : ShadowSpaces.class.getDeclaredFields()) {
            if (field.getName().equals("NONE")) {
                Check.due("NONE", Modifier.toString(field.getModifiers()), "public static final");
            } else {
                hidden.add(field);
            }
        }
        Constructor<?>[] constructors = ShadowSpaces.class.getDeclaredConstructors();
        Check.due("constructors", constructors.length, 1);
        Check.due("constructor", constructors[0].toString(), "public ShadowSpaces()");
        for (Member member : hidden) {
            Check.due(member + " is private", Modifier.isPrivate(member.getModifiers()), true);
            Check.due(member + " bears its own name", member instanceof Method && names.contains(member.getName()), false);
        }
        for (Class<?> inside : ShadowSpaces.class.getDeclaredClasses()) {
            Check.due(inside + " is static", Modifier.isStatic(inside.getModifiers()), true);
            Check.due(inside + " is not public", Modifier.isPublic(inside.getModifiers()), false);
            for (Method method : inside.getDeclaredMethods()) {
                Check.due(method + " bears its own name", names.contains(method.getName()), false);
            }
            for (Field field : inside.getDeclaredFields()) {
                checkStatic(field);
            }
        }
        for (Field field : ShadowSpaces.class.getDeclaredFields()) {
            checkStatic(field);
        }
    }

    private static void checkStatic(Field field) {
        if (Modifier.isStatic(field.getModifiers())) {
            Check.due(field + " is final", Modifier.isFinal(field.getModifiers()), true);
        }
    }

    private static void words() throws IOException {
        String source = Files.readString(SOURCE, StandardCharsets.UTF_8);
        Check.due("signs 1 to 127", source.chars().allMatch(c -> c > 0 && c < 128), true);
        String code = source.replaceAll("(?s)/\\*.*?\\*/", "").replaceAll("//[^\n]*", "");
        String[] ruledOut = {"->", "::", "\\bsynchronized\\b", "\\bassert\\b", "\\bfinally\\b", "\\bcatch\\b", "\\binstanceof\\b",
            "\\bdouble\\b", "\\bfloat\\b", "\\bSystem\\.(?!arraycopy)", "Exact\\(", "\\bRandom\\b", "\\bThread\\b", "static \\{",
            "\" \\+", "\\+ \"", "\\bpackage\\b", "\\bhashCode\\b", "\\btoString\\b", "\\bnew \\w+\\[[^\\]]*\\]\\[", "\\bvar\\b",
            "\\brecord\\b", "\\byield\\b"};
        for (String word : ruledOut) {
            Check.due(word + " stands nowhere", Pattern.compile(word).matcher(code).find(), false);
        }
        Matcher imports = Pattern.compile("import ([\\w.]+);").matcher(code);
        List<String> imported = new ArrayList<>();
        while (imports.find()) {
            imported.add(imports.group(1));
        }
        Check.due("imports", imported.toString(), "[java.util.NoSuchElementException]");
        Matcher thrown = Pattern.compile("throw new (\\w+)\\(").matcher(code);
        while (thrown.find()) {
            Check.due("thrown", thrown.group(1), "NoSuchElementException");
        }
    }

    private static void sizes() throws IOException {
        Check.due("classes", ShadowSpaces.class.getDeclaredClasses().length + 1 <= 12, true);
        List<Class<?>> classes = new ArrayList<>(Arrays.asList(ShadowSpaces.class.getDeclaredClasses()));
        classes.add(ShadowSpaces.class);
        for (Class<?> one : classes) {
            long fields = Arrays.stream(one.getDeclaredFields()).filter(f -> !Modifier.isStatic(f.getModifiers())).count();
            Check.due(one + " has some twenty fields", fields <= 20, true);
            for (Method method : one.getDeclaredMethods()) {
                Check.due(method + " has seven parameters at most", method.getParameterCount() <= 7, true);
            }
        }
        int start = 0;
        List<String> lines = Files.readAllLines(SOURCE, StandardCharsets.UTF_8);
        Pattern head = Pattern.compile("^(    |        )(?!    |return|if|for|while).*\\) (throws \\w+ )?\\{$");
        for (int i = 0; i < lines.size(); i++) {
            if (head.matcher(lines.get(i)).find()) {
                start = i;
            }
            if (lines.get(i).matches("^(    |        )\\}$")) {
                Check.due("line " + start + ": a short method", i - start <= 60 || lines.get(start).contains(" class "), true);
            }
        }
    }

    /** Methods are told apart by name alone: like names of several classes count as one, the deepest of them. */
    private static void depths() throws IOException {
        Map<String, TreeSet<String>> calls = callsOf(Files.readAllLines(SOURCE, StandardCharsets.UTF_8));
        Check.due("each method was found", calls.keySet().containsAll(publicNames()), true);
        for (String name : calls.keySet()) {
            int deep = depth(calls, name, 1);
            Check.due(name + " goes eight deep at most, and calls itself nowhere", deep <= MOST_DEEP, true);
        }
    }

    private static final int MOST_DEEP = 8;

    private static TreeSet<String> publicNames() {
        TreeSet<String> names = new TreeSet<>();
        for (Method method : ShadowSpaces.class.getDeclaredMethods()) {
            if (Modifier.isPublic(method.getModifiers())) {
                names.add(method.getName());
            }
        }
        return names;
    }

    /** What each method calls of the file, by name. */
    private static Map<String, TreeSet<String>> callsOf(List<String> lines) {
        Pattern head = Pattern.compile("^(    |        )(?:(?:public|private|static) )*(?:[\\w\\[\\]]+ )?(\\w+)\\(.*\\{$");
        Pattern call = Pattern.compile("\\b([a-z]\\w*)\\(");
        Map<String, TreeSet<String>> calls = new TreeMap<>();
        String end = null;
        TreeSet<String> called = new TreeSet<>();
        for (String line : lines) {
            Matcher m = head.matcher(line);
            if (end == null && m.matches()) {
                end = m.group(1) + "}";
                called = calls.computeIfAbsent(m.group(2), k -> new TreeSet<>());
            } else if (line.equals(end)) {
                end = null;
            } else if (end != null) {
                call.matcher(line.replaceAll("\\b(Math|Integer|Long|System|digits)\\.\\w+\\(", "(")).results()
                    .map(r -> r.group(1)).forEach(called::add);
            }
        }
        for (TreeSet<String> names : calls.values()) {
            names.retainAll(calls.keySet());
        }
        return calls;
    }

    /** Whoever calls himself comes beyond the most that may be, and is looked at no further. */
    private static int depth(Map<String, TreeSet<String>> calls, String name, int open) {
        int deepest = open;
        for (String called : open > MOST_DEEP ? new TreeSet<String>() : calls.get(name)) {
            deepest = Math.max(deepest, depth(calls, called, open + 1));
        }
        return deepest;
    }
}
