import java.lang.reflect.InvocationTargetException;
import java.lang.reflect.Method;
import java.lang.reflect.Modifier;
import java.util.ArrayList;
import java.util.Arrays;
import java.util.Comparator;
import java.util.List;
import java.util.Random;

/** Random runs of calls on the class and on the plain model of the document: both must answer alike. */
public final class ModelTest {
    private static final int MOST_CALLS = 512;
    private static int wrong = 0;
    private static final List<Method> FACE = new ArrayList<>();
    private static final List<Method> MODEL = new ArrayList<>();

    private final Random random;
    private final RandomText texts;
    private final GoodbyeQuay quay = new GoodbyeQuay();
    private final PlainQuay model = new PlainQuay();
    private final List<String> log = new ArrayList<>();
    private int calls = 0;

    private ModelTest(long seed) {
        random = new Random(seed);
        texts = new RandomText(random);
    }

    public static void main(String[] args) throws Exception {
        int runs = args.length > 0 ? Integer.parseInt(args[0]) : 700;
        long first = args.length > 1 ? Long.parseLong(args[1]) : 1;
        findMethods();
        for (long seed = first; seed < first + runs && wrong < 5; seed++) {
            new ModelTest(seed).mixedRun();
            new ModelTest(seed).textRun();
            new ModelTest(seed).orderRun();
            new ModelTest(-seed).orderRun();
        }
        System.out.println(wrong == 0 ? "the class answers as the model does" : wrong + " answers are not the model's");
        if (wrong != 0) {
            System.exit(1);
        }
    }

    private static void findMethods() throws NoSuchMethodException {
        for (Method m : GoodbyeQuay.class.getDeclaredMethods()) {
            if (Modifier.isPublic(m.getModifiers())) {
                FACE.add(m);
            }
        }
        FACE.sort(Comparator.comparing(Method::getName));
        for (Method m : FACE) {
            MODEL.add(PlainQuay.class.getDeclaredMethod(m.getName(), m.getParameterTypes()));
        }
    }

    /** What is told, then all sorts of questions and acts. */
    private void mixedRun() throws Exception {
        tell(texts.right(random.nextInt(12) == 0 ? 7 : 5));
        int many = 60 + random.nextInt(random.nextInt(10) == 0 ? 380 : 100);
        for (int i = 0; i < many && wrong == 0; i++) {
            int roll = random.nextInt(100);
            if (roll < 25) {
                callNamed(pick("minute", "minute", "minute", "change", "shorten", "insist", "giveUp", "join", "await"));
            } else if (roll < 33) {
                callNamed(pick("undo", "undo", "redo", "image", "back"));
            } else if (roll < 34 && calls < MOST_CALLS - 90) {
                tell(random.nextInt(4) == 0 ? texts.wrong() : texts.right(5));
            } else {
                callNamed(FACE.get(random.nextInt(FACE.size())).getName());
            }
        }
    }

    /** Texts alone, most of them with a fault. */
    private void textRun() throws Exception {
        for (int i = 0; i < 30 && wrong == 0; i++) {
            String text = random.nextInt(3) == 0 ? texts.soup() : texts.wrong();
            if (calls + text.length() / 20 + 8 > MOST_CALLS) {
                return;
            }
            tell(text);
            call("about", random.nextInt(17));
        }
    }

    /** Orders of four to six, where a rail more or a minute later matters. */
    private void orderRun() throws Exception {
        StringBuilder b = new StringBuilder(random.nextBoolean() ? "rails 2;" : "");
        for (char s = 'a'; s <= 'd'; s++) {
            b.append("ship ").append(s).append(" sails ").append(4 + random.nextInt(25)).append(";");
        }
        int pairs = random.nextInt(20) == 0 ? 6 : 4 + random.nextInt(2);
        for (char p = 'a'; p < 'a' + pairs; p++) {
            b.append("pair ").append(p).append(" ship ").append((char) ('a' + random.nextInt(4)));
            b.append(" needs ").append(1 + random.nextInt(12)).append(" love ").append(random.nextInt(9)).append(";");
        }
        if (random.nextBoolean()) {
            b.append(pick("lasts needs+behind;", "lasts needs-minute/3;", "lasts left/2;", "lasts needs-behind+love;"));
        }
        tell(b.toString());
        for (int i = random.nextInt(4); i > 0; i--) {
            call("minute");
        }
        for (String name : new String[] {"order", "dearest"}) {
            call(name);
            for (int i = 0; i <= pairs; i++) {
                call("lies", i);
            }
        }
    }

    private void tell(String text) throws Exception {
        call("end", 0);
        for (int at = 0; at < text.length(); at += 20) {
            Object[] numbers = new Object[5];
            for (int n = 0; n < 5; n++) {
                int number = 0;
                for (int i = 0; i < 4; i++) {
                    int place = at + n * 4 + i;
                    number = number << 8 | (place < text.length() ? text.charAt(place) & 255 : 0);
                }
                numbers[n] = number;
            }
            call("feed", numbers);
        }
        log.add("    // " + text.replace("\n", "\\n"));
        call("end", text.length());
        call("quay");
        call("fault", 0);
        call("fault", 1);
    }

    private String pick(String... names) {
        return names[random.nextInt(names.length)];
    }

    private int around(int least, int most) {
        int roll = random.nextInt(40);
        if (roll == 0) {
            return least - 1;
        }
        if (roll == 1) {
            return most + 1;
        }
        if (roll == 2) {
            return random.nextInt();
        }
        return least + random.nextInt(most - least + 1);
    }

    private void callNamed(String name) throws Exception {
        switch (name) {
            case "feed":
                call(name, random.nextInt(), random.nextInt(), random.nextInt(), random.nextInt(), random.nextInt());
                break;
            case "end":
                call(name, around(0, 40));
                break;
            case "quay":
                if (random.nextInt(8) == 0) {
                    call(name);
                }
                break;
            case "ship":
                call(name, around(0, 4), around(0, 4));
                break;
            case "pair":
                call(name, around(0, 6), around(0, 5));
                break;
            case "rail":
                call(name, around(0, 1), around(0, 1));
                break;
            case "will":
                call(name, around(0, 4), random.nextInt(4) == 0 ? around(0, 400) : around(0, 40), around(0, 1));
                break;
            case "shortest":
            case "spare":
            case "aside":
            case "fault":
                call(name, around(0, 1));
                break;
            case "swap":
            case "image":
            case "back":
                call(name, around(0, 2));
                break;
            case "blame":
                call(name, around(0, 4), around(0, 1));
                break;
            case "change":
            case "delay":
                call(name, around(0, 4), around(0, 4));
                break;
            case "lets":
                call(name, around(0, 60));
                break;
            case "law":
                call(name, around(1, 60));
                break;
            case "last":
                call(name, around(0, 4), around(1, 30));
                break;
            case "odds":
                call(name, around(0, 4), around(0, 1));
                break;
            case "seen":
                call(name, around(0, random.nextBoolean() ? 60 : 12), around(0, random.nextBoolean() ? 2 : 7),
                        random.nextInt(4) > 0);
                break;
            case "untell":
                call(name, around(0, 6));
                break;
            case "later":
                call(name, random.nextInt(8) == 0 ? around(0, 1000) : around(0, 3));
                break;
            case "fits":
                call(name, around(0, 8));
                break;
            case "sure":
            case "ask":
                call(name, around(0, 1), around(0, 8));
                break;
            case "about":
                call(name, around(0, 16));
                break;
            case "hold":
            case "await":
                call(name, around(0, 4));
                break;
            case "queue":
            case "length":
            case "shorten":
            case "insist":
            case "giveUp":
            case "join":
            case "says":
            case "steps":
            case "wish":
            case "grudge":
            case "lies":
                call(name, around(0, 5));
                break;
            case "order":
            case "dearest":
                // The model tries all orders minute by minute: not too often with many.
                if (quay.about(2) <= 5 || random.nextInt(4) == 0) {
                    call(name);
                }
                break;
            default:
                call(name);
        }
    }

    private void call(String name, Object... args) throws Exception {
        if (calls >= MOST_CALLS || wrong > 0) {
            return;
        }
        calls++;
        for (int i = 0; i < FACE.size(); i++) {
            if (FACE.get(i).getName().equals(name)) {
                Object got = answer(FACE.get(i), quay, args);
                Object due = answer(MODEL.get(i), model, args);
                log.add("    " + name + Arrays.toString(args) + " answered " + got);
                if (!got.equals(due)) {
                    wrong++;
                    log.forEach(System.out::println);
                    System.out.println(name + Arrays.toString(args) + " answered " + got + ", the model's is " + due);
                }
            }
        }
    }

    private static Object answer(Method m, Object on, Object[] args) throws Exception {
        try {
            return m.invoke(on, args);
        } catch (InvocationTargetException e) {
            e.getCause().printStackTrace(System.out);
            return "thrown: " + e.getCause();
        }
    }
}
