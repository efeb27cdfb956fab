import java.lang.reflect.InvocationTargetException;
import java.lang.reflect.Method;
import java.lang.reflect.Modifier;
import java.util.ArrayList;
import java.util.Arrays;
import java.util.Comparator;
import java.util.List;

/**
 * Each call of the face with every number at which its answer may turn, each with each, on quays in many states:
 * the class must answer as the plain model does, and never throw. Where ModelTest rolls dice, this leaves none out.
 */
public final class EveryNumberTest {
    private static final int MOST_CALLS = 512;
    private static final int[] NUMBERS = {
        Integer.MIN_VALUE, Integer.MIN_VALUE + 1, -1000, -2, -1, 0, 1, 2, 3, 4, 5, 6, 7, 8, 15, 16, 17, 29, 30, 31, 59,
        60, 61, 239, 240, 241, 399, 400, 401, 999, 1000, 1001, 1600, 65536, 100000, 100001, Integer.MAX_VALUE};
    /** For calls with three numbers, where all of the above would take too long. */
    private static final int[] FEWER = {
        Integer.MIN_VALUE, -1, 0, 1, 2, 6, 7, 8, 12, 30, 60, 61, 400, 401, Integer.MAX_VALUE};

    private static final String FULL = "ship a sails 240 waits 60;ship b sails 25 waits 9;ship c sails 0;ship d sails 40;"
            + "ship e sails 12 waits 1;pair p ship b needs 9 love 20;pair q ship e needs 7;pair r ship a needs 30 love 0;"
            + "pair s ship d needs 6 love 4;pair t ship e needs 3;pair u ship c needs 1;pair v ship b needs 12 love 5;";
    private static final String FORMULA = "lasts (needs+love)/2 + behind - (left<9)*minute%4;custom 14;";

    /**
     * A text, then acts: m a minute; g j s i a pair gives up, joins, agrees on the short form, insists; w a ship waits;
     * x two change places; u undo.
     */
    private static final String[][] STATES = {
        {"", ""},
        {"ship a sails 9;", ""},
        {"ship a sails 9;pair p ship a needs 4;", ""},
        {"ship a sails 9;pair p ship a needs 4;", "mmmm"},
        {"ship a sails 9;pair p ship a needs 4;", "g0"},
        {"ship a sails 0;pair p ship a needs 4;", "m"},
        {FULL, ""},
        {FULL, "mmmx24s3w1s6mmmm"},
        {FULL + "rails 2;quarrels 100;draw 999;", "s0w4mmg5mmmx36i3"},
        {FULL + FORMULA, "x06mmg2"},
        {FULL + FORMULA + "rails 2;quarrels 45;draw 3;", "mmmmmmmmmmmmmg6j6"},
        {"rails 2;" + FULL, "mmmmmmmmmmmmmmmmmmmmmmmmmmmmmmmmmmmmmmmmmmmmmmmmmmmmmmmmuu"},
        {"ship a sails 60;pair p ship a needs 30;pair q ship a needs 30;custom 60;rails 2;quarrels 20;", "m"}};

    private static int wrong = 0;
    private static int answers = 0;

    private final String[] state;
    private GoodbyeQuay quay;
    private PlainQuay model;
    private int calls;

    private EveryNumberTest(String[] state) {
        this.state = state;
    }

    public static void main(String[] args) throws Exception {
        for (String[] state : STATES) {
            EveryNumberTest test = new EveryNumberTest(state);
            for (Method m : face()) {
                test.askAll(m);
            }
        }
        System.out.println(wrong == 0 ? answers + " answers are the model's" : wrong + " answers are not the model's");
        if (wrong != 0) {
            System.exit(1);
        }
    }

    private static List<Method> face() {
        List<Method> all = new ArrayList<>();
        for (Method m : GoodbyeQuay.class.getDeclaredMethods()) {
            if (Modifier.isPublic(m.getModifiers())) {
                all.add(m);
            }
        }
        all.sort(Comparator.comparing(Method::getName));
        return all;
    }

    private void askAll(Method m) throws Exception {
        begin();
        if (m.getName().equals("feed")) {
            for (int n : NUMBERS) {
                ask(m, n, -n, ~n, 0x41424344, n >> 3);
            }
            return;
        }
        Object[] args = new Object[m.getParameterCount()];
        fill(m, args, 0);
    }

    private void fill(Method m, Object[] args, int at) throws Exception {
        if (at == args.length) {
            ask(m, args);
            return;
        }
        if (m.getParameterTypes()[at] == boolean.class) {
            for (boolean is : new boolean[] {true, false}) {
                args[at] = is;
                fill(m, args, at + 1);
            }
            return;
        }
        for (int n : args.length > 2 ? FEWER : NUMBERS) {
            args[at] = n;
            fill(m, args, at + 1);
        }
    }

    /** An object is asked no more than it is made for; then a new one in the same state is asked. */
    private void ask(Method m, Object... args) throws Exception {
        if (calls > MOST_CALLS - 40) {
            begin();
        }
        String call = m.getName() + Arrays.toString(args);
        int acts = quay.about(8);
        Object got = answer(m, quay, args);
        Object due = answer(PlainQuay.class.getDeclaredMethod(m.getName(), m.getParameterTypes()), model, args);
        expect(call, got, due);
        calls += 3;
        // The next number is to meet the state that this one met.
        if (quay.about(8) > acts && !m.getName().equals("redo")) {
            expect("about(2) behind " + call, quay.about(2), model.about(2));
            expect("undo() behind " + call, quay.undo(), model.undo());
            calls += 2;
        }
    }

    private void expect(String call, Object got, Object due) {
        answers++;
        if (!got.equals(due) && wrong++ < 20) {
            System.out.println(Arrays.toString(state) + ": " + call + " answered " + got + ", the model's is " + due);
        }
    }

    private void begin() {
        quay = new GoodbyeQuay();
        model = new PlainQuay();
        calls = 0;
        tell(state[0]);
        String acts = state[1];
        for (int i = 0; i < acts.length(); i++) {
            char act = acts.charAt(i);
            int first = i + 1 < acts.length() ? acts.charAt(i + 1) - '0' : 0;
            int other = i + 2 < acts.length() ? acts.charAt(i + 2) - '0' : 0;
            both(act, first, other);
        }
        // Something in a box, something seen and something untold, something that lies there.
        quay.image(1);
        model.image(1);
        quay.seen(2, 1, true);
        model.seen(2, 1, true);
        quay.later(3);
        model.later(3);
        quay.untell(0);
        model.untell(0);
        quay.trade();
        model.trade();
        calls += 5;
    }

    private void both(char act, int first, int other) {
        calls++;
        switch (act) {
            case 'm':
                expect("minute()", quay.minute(), model.minute());
                break;
            case 'g':
                expect("giveUp", quay.giveUp(first), model.giveUp(first));
                break;
            case 'j':
                expect("join", quay.join(first), model.join(first));
                break;
            case 's':
                expect("shorten", quay.shorten(first), model.shorten(first));
                break;
            case 'i':
                expect("insist", quay.insist(first), model.insist(first));
                break;
            case 'w':
                expect("await", quay.await(first), model.await(first));
                break;
            case 'x':
                expect("change", quay.change(first, other), model.change(first, other));
                break;
            case 'u':
                expect("undo", quay.undo(), model.undo());
                break;
            default:
        }
    }

    private void tell(String text) {
        for (int at = 0; at < text.length(); at += 20) {
            int[] n = new int[5];
            for (int i = 0; i < 20; i++) {
                n[i / 4] = n[i / 4] << 8 | (at + i < text.length() ? text.charAt(at + i) : 0);
            }
            expect("feed", quay.feed(n[0], n[1], n[2], n[3], n[4]), model.feed(n[0], n[1], n[2], n[3], n[4]));
            calls++;
        }
        expect("end", quay.end(text.length()), model.end(text.length()));
        expect("quay()", quay.quay(), model.quay());
        expect("fault(0)", quay.fault(0), 0);
        calls += 3;
    }

    private static Object answer(Method m, Object on, Object[] args) throws Exception {
        try {
            return m.invoke(on, args);
        } catch (InvocationTargetException e) {
            return "thrown: " + e.getCause();
        }
    }
}
