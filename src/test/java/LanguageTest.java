import java.lang.reflect.Constructor;
import java.lang.reflect.Field;
import java.lang.reflect.Method;
import java.lang.reflect.Modifier;
import java.nio.charset.StandardCharsets;
import java.nio.file.Files;
import java.nio.file.Path;
import java.util.HashSet;
import java.util.Set;
import java.util.TreeSet;
import java.util.regex.Matcher;
import java.util.regex.Pattern;

/** The face as the document has it, and what of LANGUAGE.md can be seen in the source's text. */
public final class LanguageTest {
    private static final Path SOURCE = Path.of("src/main/java/NoneSees.java");
    private static final Path DOCUMENT = Path.of("../shared/DOC.md");

    private static final String FACE = "int plan(int,int);int of(int,int);int row(int,int,int);int feed(int);"
        + "int yard();int told(int);"
        + "int set(int,int);int take(int);int at(int,int);int sees(int,int);int clear();int worst();"
        + "int ways(int,int);int after(int,int);int most(int);int hold(int,int);int more(int);int right(int);"
        + "int game(int);int turned(int);int alike();int aim(int);int reach();int see(int,int);int rubbed(int);"
        + "long odds(int,int);long mean(int);int book(int);int looked();int judge(int,int);int image();"
        + "int undo();int act(int,int,int);int trace(int);int taken(int,int);int count(int);"
        + "int tape(int,int,int);int item(int,int,long);long read(int,int);int shift(int,int,int,int,int)";

    private static final String BANNED = "\\b(throw|throws|try|catch|synchronized|assert|native|volatile|transient|"
        + "while \\(true|protected|System\\.(?!arraycopy)\\w+|Random|Thread|var|Exact|hashCode|toString|"
        + "Character|HashMap|Object|Class|interface|yield)\\b|->|::|@|\\+ \"|\" \\+";

    private static int wrong = 0;

    public static void main(String[] args) throws Exception {
        face();
        String text = Files.readString(SOURCE, StandardCharsets.US_ASCII);
        String code = text.replaceAll("(?s)/\\*.*?\\*/", "").replaceAll("//[^\n]*", "");
        faceOfDocument(text);
        bannedWords(code);
        methods(code);
        classes();
        System.out.println("the face and the language: " + wrong + " wrong");
        if (wrong != 0) {
            System.exit(1);
        }
    }

    private static void is(boolean good, String what) {
        if (!good) {
            wrong++;
            System.out.println(what);
        }
    }

    private static void face() {
        Class<?> c = NoneSees.class;
        is(Modifier.isFinal(c.getModifiers()) && Modifier.isPublic(c.getModifiers()), "the class is public and final");
        Set<String> names = new HashSet<>();
        Set<String> found = new TreeSet<>();
        for (Method m : c.getDeclaredMethods()) {
            if (!Modifier.isPrivate(m.getModifiers())) {
                String types = "";
                for (Class<?> type : m.getParameterTypes()) {
                    types += (types.isEmpty() ? "" : ",") + type;
                }
                found.add(m.getReturnType() + " " + m.getName() + "(" + types + ")");
                names.add(m.getName());
                is(m.getModifiers() == Modifier.PUBLIC, m + " is public and no more");
            }
        }
        is(found.equals(new TreeSet<>(Set.of(FACE.split(";")))), "the methods are " + found);
        for (Class<?> inside : c.getDeclaredClasses()) {
            is(Modifier.isStatic(inside.getModifiers()), inside + " is static");
            for (Method m : inside.getDeclaredMethods()) {
                is(!names.contains(m.getName()), m + " bears the name of a public one");
            }
        }
        for (Method m : c.getDeclaredMethods()) {
            is(!Modifier.isPrivate(m.getModifiers()) || !names.contains(m.getName()), m + " bears a public name");
        }
        for (Constructor<?> made : c.getDeclaredConstructors()) {
            is(Modifier.isPublic(made.getModifiers()) && made.getParameterCount() == 0, made + "");
        }
        Set<String> open = new TreeSet<>();
        for (Field f : c.getDeclaredFields()) {
            if (!Modifier.isPrivate(f.getModifiers())) {
                open.add(f.getName() + " " + f.getType() + " " + f.getModifiers());
            }
        }
        int constant = Modifier.PUBLIC | Modifier.STATIC | Modifier.FINAL;
        Set<String> due = new TreeSet<>(Set.of("NO long " + constant));
        for (String name : new String[] {"NONE", "BAD", "STATE", "FULL"}) {
            due.add(name + " int " + constant);
        }
        is(open.equals(due), "the constants are " + open);
    }

    /** Each line of the document's face, and what it says ahead of some calls, stands in the source. */
    private static void faceOfDocument(String text) throws Exception {
        if (!Files.isReadable(DOCUMENT)) {
            return;
        }
        String document = Files.readString(DOCUMENT, StandardCharsets.UTF_8);
        Matcher line = Pattern.compile("(?m)^    (public .*);$").matcher(document);
        int many = 0;
        while (line.find()) {
            many++;
            String head = line.group(1);
            is(text.contains("\n    " + head + (head.endsWith(")") ? " {\n" : ";\n")), "no such line: " + head);
        }
        is(many == 2 + 1 + FACE.split(";").length, many + " lines of the face");
        Matcher ahead = Pattern.compile("Ahead of the calls `(\\w+)`.* the interface says: (---- .*)\\.\n")
            .matcher(document);
        int parts = 0;
        while (ahead.find()) {
            parts++;
            String start = "\n    // " + ahead.group(2) + "\n\n    public \\w+ " + ahead.group(1) + "\\(";
            is(Pattern.compile(start).matcher(text).find(), "ahead of " + ahead.group(1) + " no " + ahead.group(2));
        }
        is(parts == 5, parts + " parts of the face");
    }

    private static void bannedWords(String code) {
        Matcher m = Pattern.compile(BANNED).matcher(code);
        while (m.find()) {
            is(false, "not of the language: " + m.group());
        }
        Matcher imports = Pattern.compile("import ([^;]+);").matcher(code);
        while (imports.find()) {
            is(imports.group(1).equals("java.util.Arrays"), "import " + imports.group(1));
        }
        is(!code.contains("package "), "no package line");
        is(!code.contains("while"), "no loop but for: each has its counter");
    }

    private static void methods(String code) {
        Matcher head = Pattern.compile("\n( +)(?:[\\w\\[\\]]+ )*(\\w+)\\(([^()]*)\\) \\{\n").matcher(code);
        int many = 0;
        while (head.find()) {
            if (head.group(2).matches("if|for|switch")) {
                continue;
            }
            many++;
            int end = code.indexOf("\n" + head.group(1) + "}", head.end());
            String body = code.substring(head.end(), end);
            is(head.group(3).split(",").length <= 7, head.group(2) + ": more than seven parameters");
            is(body.split("\n").length <= 60, head.group(2) + ": longer than sixty lines");
            boolean constructor = Character.isUpperCase(head.group(2).charAt(0));
            is(constructor || !Pattern.compile("\\bnew\\b").matcher(body).find(), head.group(2) + " makes an object");
        }
        is(many > 100, "only " + many + " methods were found");
    }

    private static void classes() {
        Class<?>[] inside = NoneSees.class.getDeclaredClasses();
        is(inside.length < 12, inside.length + " classes inside");
        is(ownFields(NoneSees.class) <= 20, "too many fields");
        for (Class<?> c : inside) {
            is(ownFields(c) <= 20, c + ": too many fields");
        }
    }

    private static int ownFields(Class<?> c) {
        int many = 0;
        for (Field f : c.getDeclaredFields()) {
            boolean fixed = Modifier.isStatic(f.getModifiers());
            is(!fixed || Modifier.isFinal(f.getModifiers()), f + " is static and changes");
            many += fixed ? 0 : 1;
        }
        return many;
    }
}
