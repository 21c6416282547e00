import java.lang.reflect.Field;
import java.lang.reflect.Member;
import java.lang.reflect.Method;
import java.lang.reflect.Modifier;
import java.nio.file.Files;
import java.nio.file.Path;
import java.util.Set;
import java.util.TreeSet;
import java.util.regex.Matcher;
import java.util.regex.Pattern;

/** The rules of LANGUAGE.md that can be looked up, and the face of the document. */
public final class Rules {
    private static final String[] FACE = {
        "int feed(int,int,int,int,int)", "boolean end(int)", "int net()", "int fault(int)", "int has(int)",
        "int letter(int,int)", "int named()", "int line(int,int)", "int degree(int)", "int far(int,int)",
        "int ways(int,int)", "int between(int,int)", "int reach(int)", "int price(int,int,int)",
        "int road(int,int,int)", "int spread()", "int alike(int,int)", "int sort(int,int)", "int shows(int)",
        "int sides(int)", "int at(int)", "int cross(int,int)", "int fit(int,int)", "int cubes(int)", "int most(int)",
        "int opposite(int)", "int even(int)", "int few()", "int median(int,int,int)", "int medians(int)", "int vote()",
        "int winner(int)", "int set(int,int)", "int hull(int)", "int gate(int,int)", "int see()", "int fits()",
        "int tells(int)", "int join(int,int)", "boolean cut(int)", "boolean toll(int,int)", "int grow(int)",
        "boolean drop(int)", "int press(int)", "int open(int,int)", "int chance(int)", "boolean undo()",
        "boolean seed(int)", "int image()", "int octet(int)", "boolean on()", "int status(int)"};
    private static int wrong = 0;

    private static void want(boolean holds, String what) {
        if (!holds) {
            wrong++;
            System.out.println("not so: " + what);
        }
    }

    private static String signature(Method m) {
        StringBuilder s = new StringBuilder(m.getReturnType().getName() + " " + m.getName() + "(");
        for (Class<?> p : m.getParameterTypes()) s.append(s.charAt(s.length() - 1) == '(' ? "" : ",").append(p.getName());
        return s.append(")").toString();
    }

    private static boolean isOpen(Member m) { return !Modifier.isPrivate(m.getModifiers()) && !m.isSynthetic(); }

    private static void face() throws Exception {
        Set<String> due = new TreeSet<>(Set.of(FACE));
        Set<String> got = new TreeSet<>();
        Set<String> names = new TreeSet<>();
        for (Method m : CubeNets.class.getDeclaredMethods())
            if (isOpen(m)) {
                want(Modifier.isPublic(m.getModifiers()), m + " is public");
                got.add(signature(m));
                names.add(m.getName());
            }
        want(due.equals(got), "the methods are those of the document: " + got);
        for (Field f : CubeNets.class.getDeclaredFields()) want(!isOpen(f) || f.getName().equals("NONE"), f + " is private");
        want(CubeNets.class.getField("NONE").getInt(null) == -1, "NONE is -1");
        want(CubeNets.class.getDeclaredConstructors().length == 1, "one constructor");
        want(Modifier.isFinal(CubeNets.class.getModifiers()), "the class is final");
        for (Method m : CubeNets.class.getDeclaredMethods())
            want(isOpen(m) || !names.contains(m.getName()), "no private method bears the name " + m.getName());
        for (Class<?> c : CubeNets.class.getDeclaredClasses())
            for (Method m : c.getDeclaredMethods())
                want(!Modifier.isPrivate(m.getModifiers()) || !names.contains(m.getName()), m + " has a name of its own");
    }

    private static void classes() {
        Class<?>[] all = CubeNets.class.getDeclaredClasses();
        want(all.length + 1 <= 12, "at most twelve classes");
        shape(CubeNets.class);
        for (Class<?> c : all) {
            want(Modifier.isStatic(c.getModifiers()), c + " is static");
            shape(c);
        }
    }

    private static void shape(Class<?> c) {
        int fields = 0;
        for (Field f : c.getDeclaredFields()) {
            boolean isStatic = Modifier.isStatic(f.getModifiers());
            if (!isStatic) fields++;
            want(!isStatic || Modifier.isFinal(f.getModifiers()), f + " is final");
        }
        want(fields <= 20, c + " has at most twenty fields");
        for (Method m : c.getDeclaredMethods()) want(m.getParameterCount() <= 7, m + " has at most seven parameters");
    }

    private static void source(String text) {
        String code = text.replaceAll("(?s)/\\*.*?\\*/", " ").replaceAll("//[^\n]*", " ").replaceAll("\"[^\"\n]*\"", "\"\"");
        for (String word : new String[] {"throw", "throws", "try", "catch", "finally", "synchronized", "assert", "import", "package",
            "volatile", "native", "var", "Object", "Exact", "hashCode", "toString"})
            want(!Pattern.compile("\\b\\w*" + (word.equals("Exact") ? "" : "\\b") + word + "\\b").matcher(code).find(), "no " + word);
        want(!code.contains("->") && !code.contains("::"), "no lambda, no method reference");
        want(text.chars().allMatch(c -> c == '\n' || c >= 32 && c < 127), "plain signs alone");
        Matcher calls = Pattern.compile("\\b(Math|Integer|Long|System|Arrays|String|Character)\\.(\\w+)").matcher(code);
        Set<String> known = Set.of("Math.max", "Math.min", "Integer.bitCount", "System.arraycopy");
        while (calls.find()) want(known.contains(calls.group()), "the library has " + calls.group());
        methodsAreShort(text);
    }

    private static void methodsAreShort(String text) {
        int start = 0, number = 0, indent = 0;
        for (String line : text.split("\n")) {
            number++;
            want(line.length() <= 120, "line " + number + " is not too long");
            Matcher m = Pattern.compile("^( {4}| {8})[\\w\\[\\] ]+\\([^;]*\\{$").matcher(line);
            if (m.find() && !line.contains(" class ")) {
                start = number;
                indent = m.group(1).length();
            }
            if (start > 0 && line.equals(" ".repeat(indent) + "}")) {
                want(number - start < 60, "the method at line " + start + " is short");
                start = 0;
            }
        }
    }

    public static void main(String[] args) throws Exception {
        face();
        classes();
        source(Files.readString(Path.of(args.length > 0 ? args[0] : "src/main/java/CubeNets.java")));
        System.out.println(wrong == 0 ? "the rules that were looked up hold" : wrong + " rules do not hold");
        if (wrong != 0) System.exit(1);
    }
}
