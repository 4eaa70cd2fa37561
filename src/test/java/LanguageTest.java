import java.lang.reflect.Constructor;
import java.lang.reflect.Field;
import java.lang.reflect.Method;
import java.lang.reflect.Modifier;
import java.nio.file.Files;
import java.nio.file.Paths;
import java.util.Arrays;
import java.util.TreeSet;
import java.util.regex.Matcher;
import java.util.regex.Pattern;

/** The face of the document, and what can be seen of the rules of ../shared/LANGUAGE.md. */
public final class LanguageTest {
    private static final String[] FACE = {"int feed(int,int,int,int,int)", "boolean end(int)", "int fault(int)",
        "int town()", "int laws()", "int counter(int,int)", "int sort(int,int)", "boolean seed(int)",
        "int come(int,int)", "boolean turn(int)", "boolean leave(int)", "int person(int,int)", "int next(int,int)",
        "int inside(int,int)", "int go(int)", "int comer(int,int)", "int clear()", "int waits(int,int,int)",
        "int lot()", "int best()", "int book(int,int)", "int judge(int,int)", "int value(int,int,int,int,int)",
        "int entering(int,int,int,int)", "int when(int,int,int,int,int)", "int least(int,int,int,int)",
        "int send(int,int,int,int,int)", "int out(int,int,int)", "boolean image(int)", "boolean on(int)",
        "int count(int)"};

    public static void main(String[] args) throws Exception {
        theFace();
        theClassesInside();
        theSource();
        Check.close("LanguageTest");
    }

    private static String told(Method method) {
        StringBuilder text = new StringBuilder(method.getReturnType().getSimpleName());
        text.append(' ').append(method.getName()).append('(');
        String between = "";
        for (Class<?> parameter : method.getParameterTypes()) {
            text.append(between).append(parameter.getSimpleName());
            between = ",";
        }
        return text.append(')').toString();
    }

    private static void theFace() {
        TreeSet<String> open = new TreeSet<>();
        TreeSet<String> names = new TreeSet<>();
        for (Method method : LastServed.class.getDeclaredMethods()) {
            if (!Modifier.isPrivate(method.getModifiers())) {
                open.add(told(method));
                names.add(method.getName());
                Check.due(method.getName() + " is public", Modifier.isPublic(method.getModifiers()), true);
                Check.due(method.getName() + " is of the object", Modifier.isStatic(method.getModifiers()), false);
            }
        }
        Check.due("the face " + open, open.equals(new TreeSet<>(Arrays.asList(FACE))), true);
        for (Method method : LastServed.class.getDeclaredMethods()) {
            boolean closed = Modifier.isPrivate(method.getModifiers());
            Check.due(method.getName() + " is no name of the face", closed && names.contains(method.getName()), false);
        }
        for (Field field : LastServed.class.getDeclaredFields()) {
            boolean constant = field.getName().equals("NONE") || field.getName().equals("VOID");
            int modifiers = field.getModifiers();
            Check.due(field.getName() + " is public", Modifier.isPublic(modifiers), constant);
            Check.due(field.getName() + " is private", Modifier.isPrivate(modifiers), !constant);
        }
        Constructor<?>[] constructors = LastServed.class.getDeclaredConstructors();
        Check.due("one constructor", constructors.length, 1);
        Check.due("without parameters", constructors[0].getParameterCount(), 0);
        int modifiers = LastServed.class.getModifiers();
        Check.due("public and final", Modifier.isPublic(modifiers) && Modifier.isFinal(modifiers), true);
    }

    private static void theClassesInside() {
        Class<?>[] inside = LastServed.class.getDeclaredClasses();
        Check.due("classes", inside.length <= 12, true);
        TreeSet<String> names = new TreeSet<>(Arrays.asList(Calls.NAMES));
        for (Class<?> one : inside) {
            Check.due(one + " is static", Modifier.isStatic(one.getModifiers()), true);
            int fields = 0;
            for (Field field : one.getDeclaredFields()) {
                boolean constant = Modifier.isStatic(field.getModifiers());
                fields += constant ? 0 : 1;
                Check.due(field + " is no static state", constant && !Modifier.isFinal(field.getModifiers()), false);
            }
            Check.due(one + " has few fields", fields <= 20, true);
            for (Method method : one.getDeclaredMethods()) {
                Check.due(method + " has at most seven parameters", method.getParameterCount() <= 7, true);
                Check.due(method + " bears no name of the face", names.contains(method.getName()), false);
            }
        }
    }

    private static void theSource() throws Exception {
        String source = new String(Files.readAllBytes(Paths.get("src/main/java/LastServed.java")), "ISO-8859-1");
        for (int k = 0; k < source.length(); k++) {
            if (source.charAt(k) > 126) {
                Check.due("a sign above 126 at " + k, true, false);
            }
        }
        String code = source.replaceAll("(?s)/\\*.*?\\*/", " ").replaceAll("//[^\n]*", " ");
        String[] refused = {"throw", "throws", "try", "catch", "finally", "synchronized", "assert", "Object", "Random",
            "System\\.(?!arraycopy)\\w+", "Thread", "values", "package", "goto", "volatile", "transient", "native",
            "\\w+Exact"};
        for (String word : refused) {
            Matcher found = Pattern.compile("\\b" + word + "\\b").matcher(code);
            Check.due("the source says " + word, found.find(), false);
        }
        Check.due("no lambda", code.contains("->"), false);
        Check.due("no method reference", code.contains("::"), false);
        Matcher imports = Pattern.compile("import ([^;]*);").matcher(code);
        while (imports.find()) {
            Check.due("import " + imports.group(1), imports.group(1).equals("java.util.Arrays"), true);
        }
        methodsAreShort(source);
    }

    /** A method ends at the brace that stands as far in as its first line. */
    private static void methodsAreShort(String source) {
        String[] lines = source.split("\n");
        for (int k = 0; k < lines.length; k++) {
            Matcher head = Pattern.compile("^( {4}| {8})\\w[^;=]*\\) \\{$").matcher(lines[k]);
            if (!head.matches()) {
                continue;
            }
            int end = k;
            while (end < lines.length && !lines[end].equals(head.group(1) + "}")) {
                end++;
            }
            Check.due(lines[k].trim() + " is short", end - k <= 60, true);
        }
    }
}
