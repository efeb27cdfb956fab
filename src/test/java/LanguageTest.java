import java.io.IOException;
import java.lang.management.ManagementFactory;
import java.lang.reflect.Constructor;
import java.lang.reflect.Field;
import java.lang.reflect.Method;
import java.lang.reflect.Modifier;
import java.nio.file.Files;
import java.nio.file.Paths;
import java.util.ArrayList;
import java.util.Arrays;
import java.util.HashSet;
import java.util.List;
import java.util.Map;
import java.util.Set;
import java.util.TreeMap;
import java.util.TreeSet;
import java.util.regex.Matcher;
import java.util.regex.Pattern;

/** What of ../shared/LANGUAGE.md can be seen from the source and from the class: the face, the words, the room. */
public final class LanguageTest {
    private static final String SOURCE = "src/main/java/GoodbyeQuay.java";
    private static final Set<String> LIBRARY = new HashSet<>(Arrays.asList(
            "Math.min", "Math.max", "Math.abs", "Integer.bitCount", "System.arraycopy"));
    private static int wrong = 0;

    private static void rule(int number, boolean kept, String what) {
        if (!kept) {
            wrong++;
            System.out.println("rule " + number + ": " + what);
        }
    }

    public static void main(String[] args) throws IOException {
        List<Class<?>> classes = new ArrayList<>(Arrays.asList(GoodbyeQuay.class.getDeclaredClasses()));
        face();
        for (Class<?> inside : classes) {
            rule(2, Modifier.isStatic(inside.getModifiers()), inside + " is not static");
            rule(1, !Modifier.isPublic(inside.getModifiers()), inside + " is public");
            rule(2, inside.getDeclaredClasses().length == 0, inside + " has a class inside");
        }
        classes.add(GoodbyeQuay.class);
        rule(11, classes.size() <= 12, "more than twelve classes");
        for (Class<?> each : classes) {
            members(each);
        }
        words(Files.readString(Paths.get(SOURCE)));
        nothingIsMadeByCalls();
        System.out.println(wrong == 0 ? "the rules that can be seen are kept" : wrong + " rules are not kept");
        if (wrong != 0) {
            System.exit(1);
        }
    }

    /** The methods that the document's face has, as "int feed(int int int int int)". */
    private static Set<String> faceOfDocument() throws IOException {
        String shared = System.getenv("SHARED");
        String document = Files.readString(Paths.get(shared == null ? "../shared" : shared, "DOC.md"));
        String code = document.substring(document.indexOf("```java") + 7);
        Matcher m = Pattern.compile("public (int|boolean) (\\w+)\\(([^)]*)\\);")
                .matcher(code.substring(0, code.indexOf("```")));
        Set<String> methods = new TreeSet<>();
        while (m.find()) {
            String types = m.group(3).replaceAll(" \\w+(, |$)", " ").trim();
            methods.add(m.group(1) + " " + m.group(2) + "(" + types + ")");
        }
        rule(1, methods.size() == 57, "the document's face has " + methods.size() + " methods");
        return methods;
    }

    private static void face() throws IOException {
        Class<?> face = GoodbyeQuay.class;
        rule(1, Modifier.isFinal(face.getModifiers()) && Modifier.isPublic(face.getModifiers()), "not public and final");
        Set<String> due = faceOfDocument();
        Set<String> got = new TreeSet<>();
        for (Method m : face.getDeclaredMethods()) {
            if (Modifier.isPrivate(m.getModifiers())) {
                continue;
            }
            List<String> types = new ArrayList<>();
            for (Class<?> type : m.getParameterTypes()) {
                types.add(type.getName());
            }
            rule(1, Modifier.isPublic(m.getModifiers()) && !Modifier.isStatic(m.getModifiers()), m + " is not public");
            got.add(m.getReturnType().getName() + " " + m.getName() + "(" + String.join(" ", types) + ")");
        }
        rule(1, due.equals(got), "the face has " + got + ", due is " + due);
        Constructor<?>[] constructors = face.getDeclaredConstructors();
        rule(1, constructors.length == 1 && Modifier.isPublic(constructors[0].getModifiers())
                && constructors[0].getParameterCount() == 0, "not one public constructor");
        for (Field f : face.getDeclaredFields()) {
            boolean open = !Modifier.isPrivate(f.getModifiers());
            rule(1, open == f.getName().equals("NONE"), f + " is open or hidden");
        }
    }

    private static void members(Class<?> each) {
        Set<String> open = new HashSet<>();
        for (Method m : GoodbyeQuay.class.getMethods()) {
            open.add(m.getName());
        }
        int fields = 0;
        for (Field f : each.getDeclaredFields()) {
            boolean fixed = Modifier.isStatic(f.getModifiers());
            fields += fixed ? 0 : 1;
            rule(5, !fixed || Modifier.isFinal(f.getModifiers()), f + " is static and not final");
            Class<?> type = f.getType();
            boolean plain = type == int.class || type == long.class || type == boolean.class || type == char.class
                    || type == String.class || type == int[].class || type == long[].class || type == char[].class
                    || type == byte[].class;
            rule(5, !fixed || plain, f + " is static");
        }
        rule(11, fields <= 21, each + " has " + fields + " fields");
        for (Method m : each.getDeclaredMethods()) {
            rule(11, m.getParameterCount() <= 7, m + " has too many parameters");
            boolean same = open.contains(m.getName()) && each != GoodbyeQuay.class;
            rule(1, !same, m + " bears the name of a public one");
            boolean hidden = Modifier.isPrivate(m.getModifiers()) && open.contains(m.getName());
            rule(1, !hidden, m + " bears the name of a public one");
        }
    }

    private static void words(String source) {
        rule(3, source.chars().allMatch(c -> c == 10 || c >= 32 && c < 127), "signs beyond 127");
        String code = source.replaceAll("(?s)/\\*.*?\\*/", " ").replaceAll("//[^\n]*", " ")
                .replaceAll("\"[^\"\n]*\"", "\"\"").replaceAll("'[^'\n]*'", "' '");
        for (String word : new String[] {"throw", "throws", "try", "catch", "finally", "synchronized", "assert", "import",
            "package", "native", "volatile", "instanceof", "interface", "yield", "var", "double", "float"}) {
            rule(6, !Pattern.compile("\\b" + word + "\\b").matcher(code).find(), "the word " + word);
        }
        for (String sign : new String[] {"->", "::", "@", "...", "\"\" +", "+ \"\""}) {
            rule(2, !code.contains(sign), "the signs " + sign);
        }
        rule(5, !Pattern.compile("static\\s*\\{").matcher(code).find(), "a static block");
        rule(9, !Pattern.compile("\\b(while|do)\\b").matcher(code).find(), "a loop without a counter of its own");
        rule(9, !Pattern.compile("for \\(;|;\\s*;").matcher(code).find(), "a for without an end");
        Matcher called = Pattern.compile("\\b(Math|Integer|Long|System|Arrays|String|StringBuilder|Character)\\.\\w+")
                .matcher(code);
        while (called.find()) {
            rule(4, LIBRARY.contains(called.group()), called.group());
        }
        methodsStayShort(code);
    }

    private static void methodsStayShort(String code) {
        Map<String, String> bodies = new TreeMap<>();
        String[] lines = code.split("\n");
        Pattern head = Pattern.compile("^( {4}| {8})(?!.*\\bclass\\b)[A-Za-z].*?(\\w+)\\(.*\\) \\{$");
        for (int i = 0; i < lines.length; i++) {
            Matcher m = head.matcher(lines[i]);
            if (m.find()) {
                int end = i;
                while (end < lines.length && !lines[end].equals(m.group(1) + "}")) {
                    end++;
                }
                rule(11, end - i <= 60, "a method of " + (end - i) + " lines: " + lines[i].trim());
                String body = String.join(" ", Arrays.copyOfRange(lines, i + 1, end));
                bodies.merge(m.group(2), body, (one, other) -> one + " " + other);
            }
        }
        callsStayShallow(bodies);
    }

    /** Methods of one name count as one, as does all that can call itself by way of others. */
    private static void callsStayShallow(Map<String, String> bodies) {
        Map<String, Set<String>> calls = new TreeMap<>();
        for (Map.Entry<String, String> each : bodies.entrySet()) {
            Set<String> called = new TreeSet<>();
            // What is called on a constant, as WORDS.length(), is the library's.
            Matcher m = Pattern.compile("(?<![A-Z]\\.)\\b(\\w+)\\(").matcher(each.getValue());
            while (m.find()) {
                called.add(m.group(1));
            }
            called.retainAll(bodies.keySet());
            calls.put(each.getKey(), called);
        }
        Map<String, Set<String>> reached = new TreeMap<>();
        for (String name : calls.keySet()) {
            reached.put(name, new TreeSet<>());
            reach(name, calls, reached.get(name));
        }
        rule(11, calls.containsKey("readFormula") && calls.get("readTerm").contains("readUnit"), "no calls were found");
        for (String name : calls.keySet()) {
            List<String> chain = longestFrom(name, calls, reached);
            rule(11, chain.size() <= 8, "calls " + chain.size() + " deep: " + chain);
        }
    }

    private static void reach(String from, Map<String, Set<String>> calls, Set<String> reached) {
        for (String name : calls.get(from)) {
            if (reached.add(name)) {
                reach(name, calls, reached);
            }
        }
    }

    private static List<String> longestFrom(String name, Map<String, Set<String>> calls, Map<String, Set<String>> reached) {
        List<String> longest = new ArrayList<>();
        for (String member : calls.keySet()) {
            boolean together = reached.get(name).contains(member) && reached.get(member).contains(name);
            if (!together && !member.equals(name)) {
                continue;
            }
            for (String called : calls.get(member)) {
                boolean back = reached.get(called).contains(name) || called.equals(name);
                List<String> chain = back ? new ArrayList<>() : longestFrom(called, calls, reached);
                longest = chain.size() > longest.size() ? chain : longest;
            }
        }
        List<String> all = new ArrayList<>(longest);
        all.add(0, name);
        return all;
    }

    /** All calls of a run live in one room, so rows are made by the constructor alone. */
    private static void nothingIsMadeByCalls() {
        GoodbyeQuay x = Told.of("ship a sails 40 waits 9;ship b sails 25;pair p ship a needs 5;pair q ship b needs 7;"
                + "pair r ship a needs 9 love 4;pair s ship b needs 4;pair t ship a needs 8;lasts needs+behind;");
        allAtOnce(x);
        com.sun.management.ThreadMXBean bean = (com.sun.management.ThreadMXBean) ManagementFactory.getThreadMXBean();
        long before = bean.getThreadAllocatedBytes(Thread.currentThread().getId());
        for (int i = 0; i < 400; i++) {
            allAtOnce(x);
        }
        long made = bean.getThreadAllocatedBytes(Thread.currentThread().getId()) - before;
        rule(12, made < 4000, "the calls made " + made + " bytes");
    }

    private static int allAtOnce(GoodbyeQuay x) {
        int sum = x.order() + x.dearest() + x.shortest(0) + x.spare(0) + x.hold(0) + x.swap(0) + x.wish(1) + x.trade();
        sum += x.delay(1, 0) + x.grudge(3) + x.blame(0, 0) + x.room() + x.lets(4) + x.last(0, 3) + x.second();
        sum += x.aside(0) + x.law(3) + x.odds(4, 0) + x.seen(3, 1, true) + x.fits(0) + x.sure(0, 0) + x.ask(0, 0);
        sum += x.minute() + x.change(2, 3) + x.shorten(2) + x.insist(2) + x.giveUp(4) + x.join(4) + x.await(0);
        sum += x.image(0) + x.back(0) + (x.undo() ? 1 : 0) + (x.redo() ? 1 : 0) + x.will(0, 9, 1) + x.empty();
        sum += x.feed(0x7261696c, 0x7320323b, 0x20202020, 0x0a200a20, 0x0a0a0a0a) + x.end(10) + x.end(0) + x.litter();
        return sum;
    }
}
