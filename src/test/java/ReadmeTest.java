import java.io.IOException;
import java.lang.reflect.Method;
import java.lang.reflect.Modifier;
import java.nio.file.Files;
import java.nio.file.Paths;
import java.util.regex.Matcher;
import java.util.regex.Pattern;

/** The example in README.md, call by call: each answers what stands behind it; and each call of the face is told of. */
public final class ReadmeTest {
    private static int wrong = 0;

    public static void main(String[] args) throws Exception {
        String readme = Files.readString(Paths.get("README.md"));
        int lines = example(readme);
        if (lines < 20) {
            complain("only " + lines + " calls were found");
        }
        for (Method m : GoodbyeQuay.class.getDeclaredMethods()) {
            boolean open = Modifier.isPublic(m.getModifiers());
            if (open && !readme.contains("`" + m.getName() + "`")) {
                complain("nothing is told of " + m.getName());
            }
        }
        System.out.println(wrong == 0 ? "the readme's " + lines + " calls answer as it tells" : wrong + " are wrong");
        if (wrong != 0) {
            System.exit(1);
        }
    }

    private static int example(String readme) throws IOException, ReflectiveOperationException {
        int lines = 0;
        GoodbyeQuay quay = new GoodbyeQuay();
        Matcher m = Pattern.compile("(?m)^quay\\.(\\w+)\\((.*?)\\);\\s+// ([^:\n]+):").matcher(readme);
        while (m.find()) {
            lines++;
            String got = String.valueOf(answer(quay, m.group(1), m.group(2)));
            if (!got.equals(m.group(3))) {
                complain(m.group() + " answered " + got);
            }
        }
        return lines;
    }

    private static Object answer(GoodbyeQuay quay, String name, String told) throws ReflectiveOperationException {
        String[] numbers = told.isEmpty() ? new String[0] : told.split(", ");
        Object[] args = new Object[numbers.length];
        Class<?>[] types = new Class<?>[numbers.length];
        for (int i = 0; i < numbers.length; i++) {
            args[i] = Long.decode(numbers[i]).intValue();
            types[i] = int.class;
        }
        return GoodbyeQuay.class.getMethod(name, types).invoke(quay, args);
    }

    private static void complain(String what) {
        wrong++;
        System.out.println(what);
    }
}
