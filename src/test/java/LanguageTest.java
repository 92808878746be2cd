import java.io.IOException;
import java.lang.reflect.Field;
import java.lang.reflect.Method;
import java.lang.reflect.Modifier;
import java.nio.file.Files;
import java.nio.file.Path;
import java.util.ArrayList;
import java.util.Arrays;
import java.util.List;
import java.util.TreeSet;
import java.util.regex.Matcher;
import java.util.regex.Pattern;

/** What a program can see of LANGUAGE.md: the class as it was compiled, and its text without comments and constants. */
public final class LanguageTest {
    private static final String FACE = "cancel() collect() count(int) give(int) kind(int) number(int) take() type(int)";
    private static final String THROWN = "IllegalStateException|IllegalArgumentException|IndexOutOfBoundsException"
        + "|ArithmeticException|UnsupportedOperationException|NoSuchElementException|RuntimeException";
    /** Here stands more than the rules ask: the class needs no try, and so can't catch what the machine throws. */
    private static final String[] RULED_OUT = {"->", "::", "\\btry\\b", "\\bcatch\\b", "\\bfinally\\b",
        "\\bsynchronized\\b", "\\bassert\\b", "\\bprotected\\b", "\\bvolatile\\b", "getMessage", "hashCode",
        "\\w+Exact\\(", "System\\.(?!arraycopy\\()", "Thread", "random", "\\bObject\\b"};

    private final List<Class<?>> classes = new ArrayList<>();
    private final String text;

    private LanguageTest(String source) {
        classes.add(TagMachine.class);
        classes.addAll(Arrays.asList(TagMachine.class.getDeclaredClasses()));
        text = bare(source);
    }

    public static void main(String[] args) throws IOException {
        LanguageTest test = new LanguageTest(Files.readString(Path.of("src/main/java/TagMachine.java")));
        test.face();
        test.names();
        test.staticFields();
        test.library();
        test.exceptions();
        test.sizes();
        test.lengths();
        Talk.end();
    }

    /** Without comments; texts and signs are empty. */
    private static String bare(String source) {
        return source.replaceAll("(?s)/\\*.*?\\*/", "").replaceAll("'(\\\\.|[^'\\\\])'", "' '")
            .replaceAll("\"[^\"\n]*\"", "\"\"").replaceAll("//[^\n]*", "");
    }

    private static void isEmpty(String rule, TreeSet<String> wrong) {
        Talk.due(rule, wrong.toString(), "[]");
    }

    /** Rule 1: the face, and nothing else that others could see. */
    private void face() {
        TreeSet<String> seen = new TreeSet<>();
        for (Method method : TagMachine.class.getDeclaredMethods()) {
            if (!Modifier.isPrivate(method.getModifiers())) {
                String types = Arrays.toString(method.getParameterTypes());
                seen.add(method.getName() + "(" + types.substring(1, types.length() - 1) + ")");
                Talk.due(method.getName() + " answers", method.getReturnType().getName(), "int");
            }
        }
        Talk.due("rule 1, the face", String.join(" ", seen), FACE);
        Talk.due("rule 1, the class", Modifier.toString(TagMachine.class.getModifiers()), "public final");
        String constructors = Arrays.toString(TagMachine.class.getDeclaredConstructors());
        Talk.due("rule 1, the constructor", constructors, "[public TagMachine(int)]");
        TreeSet<String> wrong = new TreeSet<>();
        for (Field field : TagMachine.class.getDeclaredFields()) {
            if (!Modifier.isPrivate(field.getModifiers())) {
                wrong.add(field.getName());
            }
        }
        for (Class<?> inside : TagMachine.class.getDeclaredClasses()) {
            int modifiers = inside.getModifiers();
            if (Modifier.isPublic(modifiers) || !Modifier.isStatic(modifiers)) {
                wrong.add(inside.getName());
            }
        }
        isEmpty("rule 1, other members", wrong);
    }

    /** Rule 1: no private method bears the name of a public one. */
    private void names() {
        TreeSet<String> wrong = new TreeSet<>();
        for (Class<?> one : classes) {
            for (Method method : one.getDeclaredMethods()) {
                boolean isOfFace = one == TagMachine.class && Modifier.isPublic(method.getModifiers());
                if (!isOfFace && (" " + FACE).contains(" " + method.getName() + "(")) {
                    wrong.add(one.getName() + "." + method.getName());
                }
            }
        }
        isEmpty("rule 1, names", wrong);
    }

    /** Rules 2 and 5. */
    private void staticFields() {
        TreeSet<String> wrong = new TreeSet<>();
        for (Class<?> one : classes) {
            for (Field field : one.getDeclaredFields()) {
                boolean isStatic = Modifier.isStatic(field.getModifiers());
                String type = field.getType().getSimpleName();
                boolean isOfEnum = one.isEnum() && type.startsWith(one.getSimpleName());
                if (isStatic && !isMadeByCompiler(field) && !isOfEnum && !(Modifier.isFinal(field.getModifiers())
                        && type.matches("int|long|boolean|char|String|int\\[\\]|long\\[\\]|char\\[\\]|byte\\[\\]"))) {
                    wrong.add(one.getName() + "." + field.getName());
                }
                if (!isStatic && one.isEnum() && !type.matches("int|long|boolean|String")) {
                    wrong.add(one.getName() + "." + field.getName());
                }
            }
        }
        isEmpty("rules 2 and 5, static fields and fields of enums", wrong);
        Talk.due("rule 5, static blocks", Boolean.toString(text.contains("static {")), "false");
    }

    private static boolean isMadeByCompiler(Field field) {
        return field.isSynthetic() || field.getName().startsWith("$");
    }

    /** Rules 2, 4, 6, 10 and 13: what the text must not have. */
    private void library() {
        TreeSet<String> wrong = new TreeSet<>();
        for (String word : RULED_OUT) {
            if (Pattern.compile(word).matcher(text).find()) {
                wrong.add(word);
            }
        }
        Matcher imports = Pattern.compile("import ([\\w.*]+);").matcher(text);
        while (imports.find()) {
            if (!imports.group(1).matches("java\\.util\\.(NoSuchElementException|ArrayList|List|Arrays|Iterator)")) {
                wrong.add(imports.group(1));
            }
        }
        Matcher math = Pattern.compile("\\b(?:Math|Integer|Long)\\.(\\w+)").matcher(text);
        while (math.find()) {
            if (!math.group(1).matches("compare|max|min|abs|bitCount|floorDiv|floorMod|MAX_VALUE|MIN_VALUE")) {
                wrong.add(math.group());
            }
        }
        if (Pattern.compile("\"\" *\\+|\\+ *\"\"").matcher(text).find()) {
            wrong.add("texts joined by +");
        }
        isEmpty("rules 2, 4, 6, 10 and 13, what is ruled out", wrong);
    }

    /** Rule 6: throw new E() or throw new E("a written text"), and only of the classes that it names. */
    private void exceptions() {
        TreeSet<String> wrong = new TreeSet<>();
        Matcher matcher = Pattern.compile("\\bthrow\\b[^;]*;").matcher(text);
        while (matcher.find()) {
            if (!matcher.group().matches("throw new (" + THROWN + ")\\((\"\")?\\);")) {
                wrong.add(matcher.group());
            }
        }
        isEmpty("rule 6, exceptions", wrong);
    }

    /** Rule 11: classes, fields and parameters. */
    private void sizes() {
        TreeSet<String> wrong = new TreeSet<>();
        for (Class<?> one : classes) {
            int fields = 0;
            for (Field field : one.getDeclaredFields()) {
                fields += Modifier.isStatic(field.getModifiers()) ? 0 : 1;
            }
            if (fields > 20) {
                wrong.add(one.getName() + " has " + fields + " fields");
            }
            for (Method method : one.getDeclaredMethods()) {
                if (method.getParameterCount() > 7) {
                    wrong.add(one.getName() + "." + method.getName());
                }
            }
        }
        int written = text.split("\\b(class|enum|interface|record) \\w+").length - 1;
        if (written > 12) {
            wrong.add(written + " classes");
        }
        isEmpty("rule 11, sizes", wrong);
    }

    /** Rule 11: methods stay short. */
    private void lengths() {
        TreeSet<String> wrong = new TreeSet<>();
        String[] lines = text.split("\n");
        for (int i = 0; i < lines.length; i++) {
            Matcher begin = Pattern.compile("^( {4}| {8})[^ ].*\\) (throws .*)?\\{$").matcher(lines[i]);
            if (begin.matches()) {
                int end = i;
                while (end < lines.length && !lines[end].equals(begin.group(1) + "}")) {
                    end++;
                }
                if (end - i > 60) {
                    wrong.add(lines[i].trim());
                }
            }
        }
        isEmpty("rule 11, lengths of methods", wrong);
    }
}
