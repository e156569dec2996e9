import java.io.IOException;
import java.lang.reflect.Field;
import java.lang.reflect.Method;
import java.lang.reflect.Modifier;
import java.nio.file.Files;
import java.nio.file.Path;
import java.util.ArrayList;
import java.util.List;
import java.util.Map;
import java.util.Set;
import java.util.TreeMap;
import java.util.TreeSet;
import java.util.regex.Matcher;
import java.util.regex.Pattern;

/** What LANGUAGE.md asks of src/main/java/FlyWheels.java, as far as a look at it can tell. */
public final class LanguageTest {
    private static final String[] FACE = {"int feed(int)", "int end(int)", "int text()", "int fault()", "int rule(int)",
        "int wheel(int,int)", "int act(int)", "int alter(int,int,int)", "int shaft(int)", "int put(int,int,int)",
        "int cut(int)", "int set(int,int)", "int add(int)", "int drop(int)", "int turn(int)", "int ticks(int)",
        "int runs(int,int)", "int ahead(int,int)", "int when(int)", "int again()", "int mass(int,int,int)",
        "int kind(int,int,int)", "int bears(int,int)", "int swap(int,int)", "int omit(int,int)", "int off(int,int)",
        "long luck(int,int,int)", "long mean(int,int,int)", "int see(int,int,int)", "int forget(int)",
        "int kinds(int)", "int losses(int)", "int ask(int,int)", "int drift(int,int,int)", "int keep(int)",
        "int back(int)", "int sheet(int,int,int)", "int lay(int,int,int)", "int read(int,int,int,int)", "int torn()",
        "int count(int)"};
    private static int wrong = 0;

    private static void ask(boolean holds, String rule) {
        if (!holds) {
            wrong++;
            System.out.println("not so: " + rule);
        }
    }

    private static void face() throws ReflectiveOperationException {
        Class<?> c = FlyWheels.class;
        ask(Modifier.isPublic(c.getModifiers()) && Modifier.isFinal(c.getModifiers()), "1: public and final");
        Set<String> due = new TreeSet<>(List.of(FACE));
        Set<String> names = new TreeSet<>();
        Set<String> open = new TreeSet<>();
        for (Method m : c.getDeclaredMethods()) {
            if (!Modifier.isPrivate(m.getModifiers())) {
                open.add(signature(m));
                names.add(m.getName());
            }
        }
        ask(due.equals(open), "1: the methods are those of the face: " + open);
        for (Class<?> inside : withInside(c)) {
            for (Method m : inside.getDeclaredMethods()) {
                ask(inside == c && !Modifier.isPrivate(m.getModifiers()) || !names.contains(m.getName()),
                    "1: no other method bears a public one's name: " + m);
                ask(m.getParameterCount() <= 7, "11: at most seven parameters: " + m);
            }
            fields(inside, c);
        }
        ask(c.getDeclaredConstructors().length == 1 && c.getConstructor() != null, "1: one public constructor");
    }

    private static void fields(Class<?> inside, Class<?> face) throws ReflectiveOperationException {
        int own = 0;
        for (Field f : inside.getDeclaredFields()) {
            int mod = f.getModifiers();
            ask(!Modifier.isStatic(mod) || Modifier.isFinal(mod), "5: static fields are final: " + f);
            own += Modifier.isStatic(mod) ? 0 : 1;
            if (inside == face && !Modifier.isPrivate(mod)) {
                ask(Set.of("BAD", "STATE", "FULL", "NONE").contains(f.getName()) && f.getType() == int.class
                    && Modifier.isPublic(mod) && Modifier.isStatic(mod), "1: no other open field: " + f);
            }
        }
        ask(own <= 20, "11: some twenty fields: " + inside);
        ask(inside == face || Modifier.isStatic(inside.getModifiers()), "2: classes inside are static: " + inside);
    }

    private static List<Class<?>> withInside(Class<?> c) {
        List<Class<?>> all = new ArrayList<>(List.of(c.getDeclaredClasses()));
        ask(all.size() <= 12, "11: some twelve classes");
        all.add(c);
        return all;
    }

    private static String signature(Method m) {
        StringBuilder b = new StringBuilder(m.getReturnType().getName()).append(' ').append(m.getName()).append('(');
        for (Class<?> p : m.getParameterTypes()) {
            b.append(b.charAt(b.length() - 1) == '(' ? "" : ",").append(p.getName());
        }
        return b.append(')').toString();
    }

    private static void words(String code) {
        for (String word : new String[] {"throw", "throws", "try", "catch", "finally", "synchronized", "assert", "import",
            "package", "double", "float", "hashCode", "System", "Object", "protected", "volatile", "native", "Exact"}) {
            ask(!Pattern.compile("\\b" + word + "\\b").matcher(code).find(), "no '" + word + "'");
        }
        ask(!code.contains("->") && !code.contains("::"), "2: no lambda, no method reference");
        ask(!code.contains("\" +") && !code.contains("+ \""), "10: texts are not joined by +");
        ask(code.chars().allMatch(ch -> ch < 127), "4: signs 1 to 127");
    }

    /** Objects are made in fields and in the constructor alone, so that no call makes any. */
    private static void making(String code) {
        Matcher m = Pattern.compile("(?m)^(.*)\\bnew\\b.*$").matcher(code);
        while (m.find()) {
            String ahead = m.group(1);
            ask(ahead.contains("final") || ahead.matches("\\s*(images|sheets)\\[k\\] = "), "12: no call makes: " + m.group());
        }
    }

    private static void lengths(String code) {
        int from = -1;
        String[] lines = code.split("\n");
        for (int i = 0; i < lines.length; i++) {
            if (lines[i].matches("( {4}| {8})\\S.*\\) \\{") && !lines[i].matches("\\s*(for|if|while|switch|\\}).*")) {
                from = i;
            }
            if (from >= 0 && lines[i].equals(lines[from].replaceAll("\\S.*", "") + "}")) {
                ask(i - from < 60, "11: a method is short: " + lines[from]);
                from = -1;
            }
        }
    }

    /** What each method calls, by name; names are told apart well enough, as none is used twice. */
    private static Map<String, Set<String>> calls(String code) {
        Map<String, String> bodies = new TreeMap<>();
        Matcher m = Pattern.compile("(?ms)^( {4}| {8})(?:(?:public|private|static|final) )*[\\w\\[\\]]+ (\\w+)\\([^\n]*\\) \\{\n"
            + "(.*?)^\\1\\}$").matcher(code);
        while (m.find()) {
            ask(bodies.put(m.group(2), m.group(3)) == null, "a method's name is used once: " + m.group(2));
        }
        Map<String, Set<String>> calls = new TreeMap<>();
        for (String name : bodies.keySet()) {
            Set<String> called = new TreeSet<>();
            Matcher call = Pattern.compile("\\b(\\w+)\\(").matcher(bodies.get(name));
            while (call.find()) {
                if (!Set.of("if", "for", "while", "switch").contains(call.group(1))) {
                    called.add(call.group(1));
                }
            }
            calls.put(name, called);
        }
        return calls;
    }

    /** How many calls stand open at most, this one and the library's too. */
    private static int depth(String name, Map<String, Set<String>> calls, int open) {
        if (open > 40) {
            ask(false, "8: no recursion: " + name);
            return 0;
        }
        int deepest = 0;
        for (String called : calls.getOrDefault(name, Set.of())) {
            deepest = Math.max(deepest, depth(called, calls, open + 1));
        }
        return deepest + 1;
    }

    private static void depths(String code) {
        Map<String, Set<String>> calls = calls(code);
        for (String signature : FACE) {
            String name = signature.replaceAll(".* |\\(.*", "");
            ask(calls.containsKey(name), "its calls are found: " + name);
            ask(depth(name, calls, 0) <= 8, "11: calls go eight deep: " + name + ", " + depth(name, calls, 0));
        }
    }

    public static void main(String[] args) throws IOException, ReflectiveOperationException {
        String source = Files.readString(Path.of("src/main/java/FlyWheels.java"));
        String code = source.replaceAll("(?s)/\\*.*?\\*/", "").replaceAll("//[^\n]*", "");
        face();
        words(code);
        making(code);
        lengths(code);
        depths(code);
        System.out.println(wrong == 0 ? "the language is kept to" : wrong + " rules are broken");
        if (wrong != 0) {
            System.exit(1);
        }
    }
}
