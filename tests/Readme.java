import java.lang.reflect.Method;
import java.nio.file.Files;
import java.nio.file.Path;
import java.util.regex.Matcher;
import java.util.regex.Pattern;

/** Makes the calls of README.md's example and holds them against the answers that stand behind them. */
public final class Readme {
    private static final Pattern CALL = Pattern.compile("x\\.(\\w+)\\(([-0-9, ]*)\\); *// (-?\\d+|true|false)\\b");

    private static Method method(String name) {
        for (Method m : CubeNets.class.getMethods()) if (m.getName().equals(name)) return m;
        throw new IllegalStateException("no method " + name);
    }

    private static Object[] numbers(String row) {
        if (row.isBlank()) return new Object[0];
        String[] parts = row.split(",");
        Object[] numbers = new Object[parts.length];
        for (int i = 0; i < parts.length; i++) numbers[i] = Integer.valueOf(parts[i].trim());
        return numbers;
    }

    public static void main(String[] args) throws Exception {
        String text = Files.readString(Path.of("README.md"));
        int all = text.split("\nx\\.", -1).length - 1;
        int calls = 0;
        int wrong = 0;
        CubeNets x = new CubeNets();
        Matcher m = CALL.matcher(text);
        while (m.find()) {
            calls++;
            String got = String.valueOf(method(m.group(1)).invoke(x, numbers(m.group(2))));
            if (!got.equals(m.group(3))) {
                wrong++;
                System.out.println(m.group() + " answered " + got);
            }
        }
        for (Method face : CubeNets.class.getDeclaredMethods())
            if (java.lang.reflect.Modifier.isPublic(face.getModifiers()) && !text.contains("`" + face.getName() + "`")) {
                wrong++;
                System.out.println("README.md does not name " + face.getName());
            }
        System.out.println(calls + " calls of the example, " + wrong + " not as told");
        if (wrong != 0 || calls == 0 || calls != all) System.exit(1);
    }
}
