import java.lang.reflect.Constructor;
import java.lang.reflect.Field;
import java.lang.reflect.Method;
import java.lang.reflect.Modifier;
import java.nio.file.Files;
import java.nio.file.Path;
import java.util.ArrayList;
import java.util.Arrays;
import java.util.HashSet;
import java.util.List;
import java.util.Map;
import java.util.Set;
import java.util.TreeMap;
import java.util.TreeSet;
import java.util.regex.Matcher;
import java.util.regex.Pattern;

/** The face is the document's, and what can be told of LANGUAGE.md from the class and its text holds. */
public final class FaceTest {
    private static final String FACE = """
        int point(int,int)
        int told(int,int)
        int set(int,int)
        int turns(int,int)
        int join(int,int,int)
        int mesh(long,int)
        long near(int,int,long)
        int measure(int,long)
        int isRing(int,long)
        int order(int,long,int)
        long classes(int,long,int)
        long taken(int,long)
        long left(int,int,long)
        int bound(int,int,int,long)
        long core(int,int,long)
        long greatest(int,int,long)
        long grown(int,long,int)
        long all(int,int,long,int)
        int turning(int,int,long,int)
        int fewest(int,long)
        long better(int,long,long)
        int prove(int,int,int,int,long)
        int proof(int)
        int check(int,int,int,int,int,long)
        int writes(int)
        int cover(int,int,int,long)
        int film(int,int,long)
        int slip(int,int)
        int feed(int,long)
        int text()
        int deal(int,int,int)
        long mean(int,int,int,int,int)
        int hold(int,int,long)
        int handAs(int,int)
        int handBound(int,int,int,long)
        long handLess(int,long)
        int sheet(int,int,int)
        int cell(int,int,int)
        int read(int,int)
        int copy(int,int,int,int,int)
        int image()
        int back()
        int count(int)
        """;
    private static final String[] CONSTANTS = {"NONE", "BAD", "STATE", "FULL", "MUCH", "NOTHING", "PLACE", "KIND", "SIZE"};
    private static final int[] VALUES = {-1, -2, -3, -4, -5, -11, -12, -13, -14};
    private static int wrong = 0;

    private static void must(boolean holds, String what) {
        if (!holds) {
            wrong++;
            System.out.println("does not hold: " + what);
        }
    }

    public static void main(String[] args) throws Exception {
        methods();
        fields();
        classes(FittingRings.class, 0);
        source(Files.readString(Path.of(args[0])));
        System.out.println(wrong == 0 ? "the face is as told" : wrong + " things are not as told");
        if (wrong != 0) {
            System.exit(1);
        }
    }

    private static String told(Method m) {
        StringBuilder b = new StringBuilder(m.getReturnType() + " " + m.getName() + "(");
        for (Class<?> c : m.getParameterTypes()) {
            b.append(b.charAt(b.length() - 1) == '(' ? "" : ",").append(c);
        }
        return b.append(")").toString();
    }

    private static void methods() {
        Set<String> want = new TreeSet<>(Arrays.asList(FACE.trim().split("\\s*\n\\s*")));
        Set<String> got = new TreeSet<>();
        for (Method m : FittingRings.class.getDeclaredMethods()) {
            if (Modifier.isPublic(m.getModifiers())) {
                got.add(told(m));
                must(!Modifier.isStatic(m.getModifiers()), m + " is of an object");
            } else {
                must(Modifier.isPrivate(m.getModifiers()), m + " is private");
            }
        }
        must(got.equals(want), "public methods " + got);
        Constructor<?>[] made = FittingRings.class.getDeclaredConstructors();
        must(made.length == 1 && Modifier.isPublic(made[0].getModifiers()) && made[0].getParameterCount() == 0, "one constructor");
        int shape = FittingRings.class.getModifiers();
        must(Modifier.isPublic(shape) && Modifier.isFinal(shape), "public and final");
    }

    private static void fields() throws Exception {
        int isPublic = 0;
        for (Field f : FittingRings.class.getDeclaredFields()) {
            if (Modifier.isPublic(f.getModifiers())) {
                isPublic++;
            } else {
                must(Modifier.isPrivate(f.getModifiers()), f + " is private");
            }
        }
        must(isPublic == CONSTANTS.length, "nine constants");
        for (int i = 0; i < CONSTANTS.length; i++) {
            must(FittingRings.class.getField(CONSTANTS[i]).getInt(null) == VALUES[i], CONSTANTS[i]);
        }
    }

    private static void classes(Class<?> c, int depth) {
        int own = 0;
        for (Field f : c.getDeclaredFields()) {
            if (Modifier.isStatic(f.getModifiers())) {
                must(Modifier.isFinal(f.getModifiers()), f + " is final");
            } else {
                own++;
            }
        }
        must(own <= 20, c + " has at most twenty fields");
        Set<String> face = new HashSet<>();
        for (Method m : FittingRings.class.getMethods()) {
            face.add(m.getName());
        }
        for (Method m : c.getDeclaredMethods()) {
            must(m.getParameterCount() <= 7, m + " takes at most seven");
            must(c == FittingRings.class && Modifier.isPublic(m.getModifiers()) || !face.contains(m.getName()), m + " has a name of its own");
        }
        must(depth < 2 && c.getDeclaredClasses().length <= 11, "at most twelve classes");
        for (Class<?> inner : c.getDeclaredClasses()) {
            must(Modifier.isStatic(inner.getModifiers()), inner + " is static");
            must(!Modifier.isPublic(inner.getModifiers()) && !Modifier.isProtected(inner.getModifiers()), inner + " is hidden");
            classes(inner, depth + 1);
        }
    }

    private static void source(String text) {
        String code = text.replaceAll("(?s)/\\*.*?\\*/", "").replaceAll("//[^\n]*", "").replaceAll("\"[^\"\n]*\"", "\"\"");
        String[] banned = {"throw", "throws", "try", "catch", "finally", "synchronized", "assert", "lambda", "package", "protected",
            "volatile", "native", "HashMap", "Exception", "Error", "hashCode", "toString", "System\\.(?!arraycopy)\\w+", "Thread", "Random",
            "\\w+Exact", "static\\s*\\{", "->", "::"};
        for (String word : banned) {
            String edge = word.matches("\\w+") ? "\\b" + word + "\\b" : word;
            must(!Pattern.compile(edge).matcher(code).find(), "no " + word);
        }
        List<String> imports = new ArrayList<>();
        Matcher m = Pattern.compile("import\\s+([\\w.*]+);").matcher(code);
        while (m.find()) {
            imports.add(m.group(1));
        }
        must(List.of("java.util.Arrays").containsAll(imports), "imports " + imports);
        for (char c : text.toCharArray()) {
            must(c < 127, "plain signs alone, not " + (int) c);
        }
        library(code);
        lengths(code.split("\n"));
        depths(code.split("\n"));
    }

    /** Of Integer, Long and Math functions alone, none of the constants: those are not listed (rule 4). */
    private static void library(String code) {
        Set<String> listed = Set.of("Arrays.fill(", "Arrays.copyOf(", "Arrays.copyOfRange(", "System.arraycopy(", "List.of(");
        Matcher m = Pattern.compile("\\b(Integer|Long|Math|Arrays|System|List|String|StringBuilder|Short|Byte|Character|Boolean|Double)"
            + "\\.(\\w+)(\\(?)").matcher(code);
        while (m.find()) {
            boolean isFunction = List.of("Integer", "Long", "Math").contains(m.group(1)) && m.group(3).equals("(");
            must(isFunction || listed.contains(m.group()), "of the library only what is listed, not " + m.group());
        }
    }

    /** What each method calls, by name; recursion counts once. */
    private static void depths(String[] lines) {
        Map<String, Set<String>> calls = new TreeMap<>();
        for (int i = 0; i < lines.length; i++) {
            Matcher head = METHOD.matcher(lines[i]);
            if (head.find()) {
                Set<String> called = calls.computeIfAbsent(head.group(2), name -> new TreeSet<>());
                for (int j = i + 1; j < lines.length && !lines[j].equals(head.group(1) + "}"); j++) {
                    Matcher call = Pattern.compile("\\b(?!(?:if|for|while|switch|return)\\b)(\\w+)\\(").matcher(lines[j]);
                    while (call.find()) {
                        called.add(call.group(1));
                    }
                }
            }
        }
        must(calls.size() > 43, "more methods than the face has were found");
        for (String name : calls.keySet()) {
            int deep = depth(calls, name, List.of());
            must(deep <= 8, "calls from " + name + " go " + deep + " deep");
        }
    }

    private static int depth(Map<String, Set<String>> calls, String name, List<String> open) {
        List<String> now = new ArrayList<>(open);
        now.add(name);
        int most = 0;
        for (String next : calls.getOrDefault(name, Set.of())) {
            if (!now.contains(next)) {
                most = Math.max(most, depth(calls, next, now));
            }
        }
        return most + 1;
    }

    /** A method begins with a line that ends in "{" at 4 or 8 blanks and ends with "}" at the same. */
    private static final Pattern METHOD =
        Pattern.compile("^( {4}| {8})(?!\\s)(?!.*\\b(?:class|new|if|for|while|switch|else)\\b).*?(\\w+)\\([^()]*\\) \\{$");

    private static void lengths(String[] lines) {
        for (int i = 0; i < lines.length; i++) {
            Matcher m = METHOD.matcher(lines[i]);
            if (m.find()) {
                int end = i;
                while (end < lines.length && !lines[end].equals(m.group(1) + "}")) {
                    end++;
                }
                must(end - i < 60, "a method of at most sixty lines: " + lines[i].trim());
            }
        }
    }
}
