import java.io.IOException;
import java.lang.reflect.Constructor;
import java.lang.reflect.Field;
import java.lang.reflect.Method;
import java.lang.reflect.Modifier;
import java.nio.file.Files;
import java.nio.file.Path;
import java.util.Set;
import java.util.TreeSet;
import java.util.regex.Matcher;
import java.util.regex.Pattern;

/** The public face, and what can be seen of the rules of LANGUAGE.md in the class and in its text. */
public final class LanguageTest {
    private static final String[] FACE = {
        "int feed(long,long,long)", "int realm()", "int reign()", "int person(int,int)", "int come(int)",
        "boolean leave(int)", "int lamp(int)", "int waits()", "int ride()", "boolean undo()", "int judged(int)",
        "int leap(int)", "int between(int,int)", "int next(int)", "int weekday(int)", "int gate(int,int)",
        "int call(int)", "int when(int)", "int audience(int)", "int burnt(int)", "int crowd(int)",
        "int exchange(int,int)", "int lastday(int)", "int cycle(int)", "int need(int)", "int coming(int,int)",
        "int old(int)", "int julian(int)", "int stale()", "boolean say(int,boolean)", "int fits(int)", "int ask()",
        "int chance(int,int)", "int rests(int,int,int,int)", "int ages(int,int,int)", "boolean mark(int,boolean)",
        "int count(int)"};
    private static final String[] NEVER = {"\\bcatch\\b", "\\btry\\b", "\\bfinally\\b", "\\bassert\\b", "\\bsynchronized\\b",
        "->", "::", "Exact\\b", "\\bvar\\b", "static \\{", "\\bSystem\\.(?!arraycopy)", "\\bThread\\b", "\\bRandom\\b",
        "hashCode", "toString", "\\bpackage\\b", "\\bpublic static (?!final int NONE)", "\\bprotected\\b", "\" \\+|\\+ \""};

    public static void main(String[] args) throws IOException {
        face();
        names();
        sizes();
        text();
        Check.end();
    }

    private static void face() {
        Set<String> want = new TreeSet<>(Set.of(FACE));
        Set<String> got = new TreeSet<>();
        for (Method method : LeapCapital.class.getDeclaredMethods()) {
            if (Modifier.isPrivate(method.getModifiers())) {
                continue;
            }
            StringBuilder one = new StringBuilder(method.getReturnType() + " " + method.getName() + "(");
            for (Class<?> type : method.getParameterTypes()) {
                one.append(one.charAt(one.length() - 1) == '(' ? "" : ",").append(type);
            }
            got.add(one.append(')').toString());
        }
        Check.due("face " + got, got.equals(want), true);
        for (Field field : LeapCapital.class.getDeclaredFields()) {
            boolean constant = field.getName().equals("NONE");
            Check.due("field " + field.getName(), Modifier.isPrivate(field.getModifiers()), !constant);
        }
        Constructor<?>[] constructors = LeapCapital.class.getDeclaredConstructors();
        Check.due("constructors", constructors.length, 1);
        Check.due("of nothing", constructors[0].getParameterCount(), 0);
        Check.due("final", Modifier.isFinal(LeapCapital.class.getModifiers()), true);
    }

    private static void names() {
        Set<String> open = new TreeSet<>();
        for (String one : FACE) {
            open.add(one.substring(one.indexOf(' ') + 1, one.indexOf('(')));
        }
        for (Method method : LeapCapital.class.getDeclaredMethods()) {
            if (Modifier.isPrivate(method.getModifiers())) {
                Check.due("private " + method.getName(), open.contains(method.getName()), false);
            }
        }
        for (Class<?> inside : LeapCapital.class.getDeclaredClasses()) {
            for (Method method : inside.getDeclaredMethods()) {
                Check.due(inside.getName() + "." + method.getName(), open.contains(method.getName()), false);
            }
        }
    }

    private static void sizes() {
        Class<?>[] inside = LeapCapital.class.getDeclaredClasses();
        Check.due("classes: " + inside.length, inside.length <= 11, true);
        looked(LeapCapital.class);
        for (Class<?> one : inside) {
            Check.due(one + " is static", Modifier.isStatic(one.getModifiers()), true);
            looked(one);
        }
    }

    private static void looked(Class<?> one) {
        int fields = 0;
        for (Field field : one.getDeclaredFields()) {
            if (Modifier.isStatic(field.getModifiers())) {
                Check.due("static " + field, Modifier.isFinal(field.getModifiers()), true);
            } else {
                fields++;
            }
        }
        Check.due(one + " has fields: " + fields, fields <= 20, true);
        for (Method method : one.getDeclaredMethods()) {
            Check.due(method + " has few parameters", method.getParameterCount() <= 7, true);
        }
    }

    private static void text() throws IOException {
        String text = Files.readString(Path.of("src/main/java/LeapCapital.java"));
        String code = text.replaceAll("(?s)/\\*.*?\\*/", "").replaceAll("//[^\\n]*", "");
        for (String never : NEVER) {
            Matcher found = Pattern.compile(never).matcher(code);
            Check.due("the text has " + never, found.find(), false);
        }
        Matcher imports = Pattern.compile("import ([^;]*);").matcher(code);
        int many = 0;
        while (imports.find()) {
            many++;
            Check.due("import " + imports.group(1), imports.group(1).equals("java.util.NoSuchElementException"), true);
        }
        Check.due("imports", many, 1);
        for (char sign : text.toCharArray()) {
            if (sign > 126) {
                Check.due("sign " + (int) sign, true, false);
            }
        }
        methodLengths(text);
    }

    private static void methodLengths(String text) {
        String[] lines = text.split("\n");
        int begun = -1;
        int indent = 0;
        for (int i = 0; i < lines.length; i++) {
            String bare = lines[i].stripLeading();
            int now = lines[i].length() - bare.length();
            if (begun < 0 && (now == 4 || now == 8) && bare.endsWith(") {")) {
                begun = i;
                indent = now;
            } else if (begun >= 0 && now == indent && bare.equals("}")) {
                Check.due("line " + (begun + 1) + " begins a short method", i - begun <= 60, true);
                begun = -1;
            }
        }
    }
}
