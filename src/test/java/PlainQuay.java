import java.util.ArrayList;
import java.util.Arrays;
import java.util.HashSet;
import java.util.List;
import java.util.Set;

/**
 * The document once more, in its slowest and plainest form, for tests alone: it goes minute by minute,
 * tries all orders and sets, and takes whatever the Java library has.
 */
final class PlainQuay {
    private static final Set<String> OWN_WORDS = new HashSet<>(Arrays.asList(
            "ship", "sails", "waits", "pair", "needs", "love", "custom", "rails", "lasts", "quarrels", "draw",
            "or", "and", "not", "behind", "left", "minute"));

    private static final class Fault extends Exception {
        private static final long serialVersionUID = 1L;
        final int what;
        final int place;

        Fault(int what, int place) {
            this.what = what;
            this.place = place;
        }
    }

    private interface Term {
        int value(int needs, int love, int custom, int behind, int left, int minute);
    }

    private static final class Told {
        List<String> shipNames = new ArrayList<>();
        List<Integer> sails = new ArrayList<>();
        List<Integer> waits = new ArrayList<>();
        List<String> pairNames = new ArrayList<>();
        List<Integer> pairShip = new ArrayList<>();
        List<Integer> needs = new ArrayList<>();
        List<Integer> love = new ArrayList<>();
        int custom = 11;
        int rails = 1;
        int quarrels = 0;
        int draw = 0;
        Term lasts = null;
        int units = 0;
        /** How many queue, by what the last pair needs and by minutes, once it is asked for. */
        int[][] queues = null;
    }

    private static final class Token {
        final String text;
        final int place;

        Token(String text, int place) {
            this.text = text;
            this.place = place;
        }

        boolean isNumber() {
            return !text.isEmpty() && Character.isDigit(text.charAt(0));
        }

        boolean isWord() {
            return !text.isEmpty() && text.charAt(0) >= 'a' && text.charAt(0) <= 'z';
        }
    }

    /** All tokens up to the first place where there is none; that one stands as null text. */
    private static List<Token> tokens(String text) {
        List<Token> found = new ArrayList<>();
        int i = 0;
        while (i < text.length()) {
            char c = text.charAt(i);
            if (c == ' ' || c == '\n') {
                i++;
                continue;
            }
            int j = i;
            boolean bad = false;
            if (c >= 'a' && c <= 'z') {
                while (j < text.length() && text.charAt(j) >= 'a' && text.charAt(j) <= 'z') {
                    j++;
                }
                bad = j - i > 8;
            } else if (c >= '0' && c <= '9') {
                while (j < text.length() && text.charAt(j) >= '0' && text.charAt(j) <= '9') {
                    j++;
                }
                bad = j - i > 4 || j < text.length() && text.charAt(j) >= 'a' && text.charAt(j) <= 'z';
            } else {
                bad = ";()<>=+-*/%".indexOf(c) < 0;
                j = i + 1;
            }
            found.add(new Token(bad ? null : text.substring(i, j), i));
            if (bad) {
                return found;
            }
            i = j;
        }
        found.add(new Token("", text.length()));
        return found;
    }

    private static final class Parser {
        final List<Token> tokens;
        int at = 0;
        final Told told = new Told();
        final Set<String> once = new HashSet<>();

        Parser(String text) {
            tokens = tokens(text);
        }

        Token peek() throws Fault {
            Token t = tokens.get(at);
            if (t.text == null) {
                throw new Fault(1, t.place);
            }
            return t;
        }

        boolean is(String text) throws Fault {
            return peek().text.equals(text);
        }

        void want(String text) throws Fault {
            if (!is(text)) {
                throw new Fault(2, peek().place);
            }
            at++;
        }

        int number(int least, int most) throws Fault {
            Token t = peek();
            if (!t.isNumber()) {
                throw new Fault(2, t.place);
            }
            int n = Integer.parseInt(t.text);
            if (n < least || n > most) {
                throw new Fault(4, t.place);
            }
            at++;
            return n;
        }

        String name() throws Fault {
            Token t = peek();
            if (!t.isWord() || OWN_WORDS.contains(t.text)) {
                throw new Fault(2, t.place);
            }
            at++;
            return t.text;
        }

        Told all() throws Fault {
            while (!is("")) {
                line();
            }
            return told;
        }

        void line() throws Fault {
            Token first = peek();
            String sort = first.text;
            boolean many = sort.equals("ship") && told.shipNames.size() == 5
                    || sort.equals("pair") && told.pairNames.size() == 7
                    || once.contains(sort);
            if (many) {
                throw new Fault(2, first.place);
            }
            at++;
            switch (sort) {
                case "ship": {
                    int place = peek().place;
                    String name = name();
                    if (told.shipNames.contains(name)) {
                        throw new Fault(3, place);
                    }
                    want("sails");
                    int sails = number(0, 240);
                    int waits = 0;
                    if (is("waits")) {
                        at++;
                        waits = number(0, 60);
                    }
                    told.shipNames.add(name);
                    told.sails.add(sails);
                    told.waits.add(waits);
                    break;
                }
                case "pair": {
                    int place = peek().place;
                    String name = name();
                    if (told.pairNames.contains(name)) {
                        throw new Fault(3, place);
                    }
                    want("ship");
                    place = peek().place;
                    int ship = told.shipNames.indexOf(name());
                    if (ship < 0) {
                        throw new Fault(5, place);
                    }
                    want("needs");
                    int needs = number(1, 30);
                    int love = 1;
                    if (is("love")) {
                        at++;
                        love = number(0, 20);
                    }
                    told.pairNames.add(name);
                    told.pairShip.add(ship);
                    told.needs.add(needs);
                    told.love.add(love);
                    break;
                }
                case "custom":
                    told.custom = number(1, 60);
                    once.add(sort);
                    break;
                case "rails":
                    told.rails = number(1, 2);
                    once.add(sort);
                    break;
                case "quarrels":
                    told.quarrels = number(0, 100);
                    once.add(sort);
                    break;
                case "draw":
                    told.draw = number(0, 999);
                    once.add(sort);
                    break;
                case "lasts":
                    told.lasts = either(0);
                    once.add(sort);
                    break;
                default:
                    throw new Fault(2, first.place);
            }
            want(";");
        }

        Term either(int within) throws Fault {
            Term left = both(within);
            while (is("or")) {
                at++;
                Term a = left;
                Term b = both(within);
                left = (n, l, c, h, t, m) -> a.value(n, l, c, h, t, m) != 0 | b.value(n, l, c, h, t, m) != 0 ? 1 : 0;
            }
            return left;
        }

        Term both(int within) throws Fault {
            Term left = one(within);
            while (is("and")) {
                at++;
                Term a = left;
                Term b = one(within);
                left = (n, l, c, h, t, m) -> a.value(n, l, c, h, t, m) != 0 & b.value(n, l, c, h, t, m) != 0 ? 1 : 0;
            }
            return left;
        }

        Term one(int within) throws Fault {
            if (is("not")) {
                if (within > 6) {
                    throw new Fault(2, peek().place);
                }
                at++;
                Term a = one(within + 1);
                return (n, l, c, h, t, m) -> a.value(n, l, c, h, t, m) == 0 ? 1 : 0;
            }
            Term a = sum(within);
            if (is("<")) {
                at++;
                Term b = sum(within);
                return (n, l, c, h, t, m) -> a.value(n, l, c, h, t, m) < b.value(n, l, c, h, t, m) ? 1 : 0;
            }
            if (is(">")) {
                at++;
                Term b = sum(within);
                return (n, l, c, h, t, m) -> a.value(n, l, c, h, t, m) > b.value(n, l, c, h, t, m) ? 1 : 0;
            }
            if (is("=")) {
                at++;
                Term b = sum(within);
                return (n, l, c, h, t, m) -> a.value(n, l, c, h, t, m) == b.value(n, l, c, h, t, m) ? 1 : 0;
            }
            return a;
        }

        Term sum(int within) throws Fault {
            Term left = term(within);
            while (is("+") || is("-")) {
                int sign = is("+") ? 1 : -1;
                at++;
                Term a = left;
                Term b = term(within);
                left = (n, l, c, h, t, m) -> a.value(n, l, c, h, t, m) + sign * b.value(n, l, c, h, t, m);
            }
            return left;
        }

        Term term(int within) throws Fault {
            Term left = unit(within);
            while (is("*") || is("/") || is("%")) {
                char sign = peek().text.charAt(0);
                at++;
                Term a = left;
                Term b = unit(within);
                left = (n, l, c, h, t, m) -> product(sign, a.value(n, l, c, h, t, m), b.value(n, l, c, h, t, m));
            }
            return left;
        }

        static int product(char sign, int a, int b) {
            if (sign == '*') {
                return a * b;
            }
            if (b == 0) {
                return 0;
            }
            return sign == '/' ? (int) ((long) a / b) : (int) ((long) a % b);
        }

        Term unit(int within) throws Fault {
            Token t = peek();
            boolean open = t.text.equals("(");
            boolean word = Arrays.asList("needs", "love", "custom", "behind", "left", "minute").contains(t.text);
            if (!open && !word && !t.isNumber() || told.units == 30 || open && within > 6) {
                throw new Fault(2, t.place);
            }
            told.units++;
            at++;
            if (open) {
                Term inner = either(within + 1);
                want(")");
                return inner;
            }
            if (t.isNumber()) {
                int number = Integer.parseInt(t.text);
                return (n, l, c, h, tt, m) -> number;
            }
            switch (t.text) {
                case "needs":
                    return (n, l, c, h, tt, m) -> n;
                case "love":
                    return (n, l, c, h, tt, m) -> l;
                case "custom":
                    return (n, l, c, h, tt, m) -> c;
                case "behind":
                    return (n, l, c, h, tt, m) -> h;
                case "left":
                    return (n, l, c, h, tt, m) -> tt;
                default:
                    return (n, l, c, h, tt, m) -> m;
            }
        }
    }

    /** The quay at a minute, with whatever is thought of it. */
    private static final class World {
        Told told;
        List<Integer> queue = new ArrayList<>();
        List<Integer> how = new ArrayList<>();
        List<Boolean> brief = new ArrayList<>();
        List<Integer> pairShip = new ArrayList<>();
        List<Integer> needs = new ArrayList<>();
        List<Integer> love = new ArrayList<>();
        int[] later;
        boolean[] waited;
        int custom;
        int[] railPair;
        int[] railTime;
        int[] stranger;
        int waves;
        int minute;
        int seed;
        boolean quarrelling;
        int stepped;

        World(Told told) {
            this.told = told;
            for (int p = 0; p < told.pairNames.size(); p++) {
                queue.add(p);
                how.add(0);
                brief.add(false);
            }
            pairShip.addAll(told.pairShip);
            needs.addAll(told.needs);
            love.addAll(told.love);
            later = new int[told.sails.size()];
            waited = new boolean[told.sails.size()];
            custom = told.custom;
            railPair = new int[told.rails];
            Arrays.fill(railPair, -1);
            railTime = new int[told.rails];
            stranger = new int[told.rails];
            seed = told.draw;
        }

        World(World w) {
            told = w.told;
            queue.addAll(w.queue);
            how.addAll(w.how);
            brief.addAll(w.brief);
            pairShip.addAll(w.pairShip);
            needs.addAll(w.needs);
            love.addAll(w.love);
            later = w.later.clone();
            waited = w.waited.clone();
            custom = w.custom;
            railPair = w.railPair.clone();
            railTime = w.railTime.clone();
            stranger = w.stranger.clone();
            waves = w.waves;
            minute = w.minute;
            seed = w.seed;
            quarrelling = w.quarrelling;
        }

        World copy() {
            return new World(this);
        }

        int sails(int ship) {
            return told.sails.get(ship) + (waited[ship] ? told.waits.get(ship) : 0) + later[ship];
        }

        boolean gone(int ship) {
            return minute >= sails(ship);
        }

        int length(int pair) {
            int behind = queue.size() - 1 - queue.indexOf(pair);
            int left = gone(pairShip.get(pair)) ? 0 : sails(pairShip.get(pair)) - minute;
            int n = told.lasts == null ? Math.min(needs.get(pair), custom)
                    : told.lasts.value(needs.get(pair), love.get(pair), custom, behind, left, minute);
            n = n < 1 ? 1 : n > 60 ? 60 : n;
            return !brief.get(pair) ? n : n == 1 ? 1 : n / 2;
        }

        boolean empty() {
            for (int p : railPair) {
                if (p >= 0) {
                    return false;
                }
            }
            return queue.isEmpty();
        }

        int minutePasses() {
            boolean[] held = new boolean[railPair.length];
            for (int r = 0; r < railPair.length; r++) {
                if (railPair[r] >= 0) {
                    continue;
                }
                if (stranger[r] > 0) {
                    held[r] = true;
                    continue;
                }
                while (!queue.isEmpty() && gone(pairShip.get(queue.get(0)))) {
                    how.set(queue.remove(0), 3);
                    waves++;
                }
                if (!queue.isEmpty()) {
                    int p = queue.get(0);
                    int length = length(p);
                    queue.remove(0);
                    how.set(p, 1);
                    stepped |= 1 << p;
                    seed = (137 * seed + 71) % 1000;
                    if (quarrelling && seed % 100 < told.quarrels) {
                        length += 3;
                    }
                    railPair[r] = p;
                    railTime[r] = length;
                }
            }
            int said = 0;
            for (int r = 0; r < railPair.length; r++) {
                if (held[r]) {
                    stranger[r]--;
                } else if (railPair[r] >= 0 && --railTime[r] == 0) {
                    how.set(railPair[r], 2);
                    said |= 1 << railPair[r];
                    railPair[r] = -1;
                }
            }
            minute++;
            for (int r = 0; r < railPair.length; r++) {
                if (railPair[r] >= 0 && gone(pairShip.get(railPair[r]))) {
                    how.set(railPair[r], 3);
                    railPair[r] = -1;
                    railTime[r] = 0;
                    waves++;
                }
            }
            return said;
        }

        World atTheEnd() {
            World w = copy();
            while (!w.empty()) {
                w.minutePasses();
            }
            return w;
        }

        int bits(int wanted) {
            int bits = 0;
            for (int p = 0; p < how.size(); p++) {
                bits |= how.get(p) == wanted ? 1 << p : 0;
            }
            return bits;
        }

        int count() {
            return Integer.bitCount(atTheEnd().bits(2));
        }

        int love() {
            int said = atTheEnd().bits(2);
            int sum = 0;
            for (int p = 0; p < love.size(); p++) {
                sum += (said >> p & 1) * love.get(p);
            }
            return sum;
        }

        int says(int pair) {
            World w = copy();
            int n = 0;
            while (w.how.get(pair) != 2 && !w.empty()) {
                w.minutePasses();
                n++;
            }
            return w.how.get(pair) == 2 ? n : -1;
        }

        World without(int pairs) {
            World w = copy();
            for (int p = 0; p < how.size(); p++) {
                if ((pairs >> p & 1) != 0) {
                    w.queue.remove((Integer) p);
                    w.how.set(p, 4);
                }
            }
            return w;
        }

        World changed(int place, int other) {
            World w = copy();
            int p = w.queue.get(place);
            w.queue.set(place, w.queue.get(other));
            w.queue.set(other, p);
            return w;
        }
    }

    private static final class Seen {
        int minutes;
        int many;
        boolean is;
        int toldAt;
        int untoldAt = Integer.MAX_VALUE;
        boolean untold = false;
    }

    private StringBuilder tape = new StringBuilder();
    private Told told = new Told();
    private World now = new World(told);
    private int fault = 0;
    private int faultPlace = -1;
    private List<World> undos = new ArrayList<>();
    private List<World> redos = new ArrayList<>();
    private World[] boxes = new World[3];
    private List<Integer> pile = new ArrayList<>();
    private List<Seen> seens = new ArrayList<>();
    private int time = 0;

    int feed(int a, int b, int c, int d, int e) {
        if (tape.length() + 20 > 1600) {
            return -1;
        }
        for (int n : new int[] {a, b, c, d, e}) {
            tape.append((char) (n >>> 24)).append((char) (n >>> 16 & 255));
            tape.append((char) (n >>> 8 & 255)).append((char) (n & 255));
        }
        return tape.length();
    }

    int end(int n) {
        if (n < 0 || n > tape.length()) {
            return -1;
        }
        tape.setLength(n);
        return n;
    }

    int quay() {
        String text = tape.toString();
        tape.setLength(0);
        try {
            told = new Parser(text).all();
        } catch (Fault f) {
            fault = f.what;
            faultPlace = f.place;
            return -1;
        }
        fault = 0;
        faultPlace = -1;
        now = new World(told);
        now.quarrelling = false;
        undos.clear();
        redos.clear();
        boxes = new World[3];
        pile.clear();
        seens.clear();
        return told.pairNames.size();
    }

    int fault(int what) {
        return what == 0 ? fault : what == 1 ? faultPlace : -1;
    }

    private boolean isShip(int s) {
        return s >= 0 && s < told.sails.size();
    }

    private boolean isPair(int p) {
        return p >= 0 && p < told.needs.size();
    }

    private boolean queuing(int p) {
        return isPair(p) && now.how.get(p) == 0;
    }

    int ship(int ship, int what) {
        if (!isShip(ship) || what < 0 || what > 4) {
            return -1;
        }
        int pairs = 0;
        for (int p = 0; p < told.pairShip.size(); p++) {
            if (told.pairShip.get(p) == ship) {
                pairs += 1 << p;
            }
        }
        int[] all = {now.sails(ship), told.waits.get(ship), now.waited[ship] ? 1 : 0, now.gone(ship) ? 1 : 0, pairs};
        return all[what];
    }

    int pair(int p, int what) {
        if (!isPair(p) || what < 0 || what > 5) {
            return -1;
        }
        int[] all = {told.pairShip.get(p), told.needs.get(p), told.love.get(p), now.how.get(p), now.queue.indexOf(p),
            now.brief.get(p) ? 1 : 0};
        return all[what];
    }

    int queue(int place) {
        return place < 0 || place >= now.queue.size() ? -1 : now.queue.get(place);
    }

    int rail(int r, int what) {
        if (r < 0 || r >= told.rails) {
            return -1;
        }
        return what == 0 ? now.railPair[r] : what == 1 ? now.railPair[r] < 0 ? 0 : now.railTime[r] : -1;
    }

    int length(int p) {
        return queuing(p) ? now.length(p) : -1;
    }

    private void act(World next) {
        undos.add(now);
        if (undos.size() > 40) {
            undos.remove(0);
        }
        redos.clear();
        now = next;
    }

    int minute() {
        if (now.empty() || now.minute >= 999) {
            return -1;
        }
        World w = now.copy();
        w.quarrelling = true;
        int said = w.minutePasses();
        w.quarrelling = false;
        act(w);
        return said;
    }

    int change(int p, int q) {
        if (p == q || !queuing(p) || !queuing(q)) {
            return -1;
        }
        act(now.changed(now.queue.indexOf(p), now.queue.indexOf(q)));
        return now.count();
    }

    private int setBrief(int p, boolean brief) {
        if (!queuing(p) || now.brief.get(p) == brief) {
            return -1;
        }
        World w = now.copy();
        w.brief.set(p, brief);
        act(w);
        return now.length(p);
    }

    int shorten(int p) {
        return setBrief(p, true);
    }

    int insist(int p) {
        return setBrief(p, false);
    }

    int giveUp(int p) {
        if (!queuing(p)) {
            return -1;
        }
        act(now.without(1 << p));
        return now.queue.size();
    }

    int join(int p) {
        if (!isPair(p) || now.gone(told.pairShip.get(p)) || now.how.get(p) < 3) {
            return -1;
        }
        World w = now.copy();
        w.how.set(p, 0);
        w.queue.add(p);
        act(w);
        return now.queue.size() - 1;
    }

    int await(int s) {
        if (!isShip(s) || now.waited[s] || now.gone(s)) {
            return -1;
        }
        World w = now.copy();
        w.waited[s] = true;
        act(w);
        return now.sails(s);
    }

    boolean undo() {
        if (undos.isEmpty()) {
            return false;
        }
        redos.add(now);
        now = undos.remove(undos.size() - 1);
        return true;
    }

    boolean redo() {
        if (redos.isEmpty()) {
            return false;
        }
        undos.add(now);
        now = redos.remove(redos.size() - 1);
        return true;
    }

    int will(int p, int n, int what) {
        if (!isPair(p) || n < 0 || n > 400 || what < 0 || what > 1) {
            return -1;
        }
        World w = now.copy();
        w.quarrelling = what == 1;
        for (int i = 0; i < n && !w.empty(); i++) {
            w.minutePasses();
        }
        return w.how.get(p);
    }

    int says(int p) {
        return isPair(p) ? now.says(p) : -1;
    }

    int steps(int p) {
        if (!queuing(p)) {
            return -1;
        }
        World w = now.copy();
        w.stepped = 0;
        for (int n = 0; !w.empty(); n++) {
            w.minutePasses();
            if ((w.stepped >> p & 1) != 0) {
                return n;
            }
        }
        return -1;
    }

    int missing() {
        return now.atTheEnd().bits(3);
    }

    int empty() {
        return now.atTheEnd().minute - now.minute;
    }

    int count() {
        return now.count();
    }

    int love() {
        return now.love();
    }

    private interface Worth {
        int of(World w);
    }

    private void orders(List<Integer> ahead, List<Integer> left, List<List<Integer>> all) {
        if (left.isEmpty()) {
            all.add(new ArrayList<>(ahead));
        }
        for (int i = 0; i < left.size(); i++) {
            List<Integer> others = new ArrayList<>(left);
            ahead.add(others.remove(i));
            orders(ahead, others, all);
            ahead.remove(ahead.size() - 1);
        }
    }

    private List<List<Integer>> allOrders() {
        List<Integer> sorted = new ArrayList<>(now.queue);
        sorted.sort(null);
        List<List<Integer>> all = new ArrayList<>();
        orders(new ArrayList<>(), sorted, all);
        return all;
    }

    private int bestOrder(Worth worth) {
        int most = -1;
        for (List<Integer> order : allOrders()) {
            World w = now.copy();
            w.queue = new ArrayList<>(order);
            int n = worth.of(w);
            if (n > most) {
                most = n;
                pile = order;
            }
        }
        return most;
    }

    int order() {
        return bestOrder(w -> w.count());
    }

    int dearest() {
        return bestOrder(w -> w.love());
    }

    private static boolean covers(int set, int wanted) {
        return (set & wanted) == wanted;
    }

    int shortest(int what) {
        if (what < 0 || what > 1) {
            return -1;
        }
        for (int size = 0; size <= 7; size++) {
            for (int set = 0; set < 128; set++) {
                World w = now.copy();
                boolean can = Integer.bitCount(set) == size && covers(now.bits(0), set);
                for (int p = 0; can && p < 7; p++) {
                    if ((set >> p & 1) != 0) {
                        can = !now.brief.get(p);
                        w.brief.set(p, true);
                    }
                }
                if (can && covers(w.atTheEnd().bits(2), now.bits(0) | now.bits(1))) {
                    return what == 0 ? size : set;
                }
            }
        }
        return -1;
    }

    int spare(int what) {
        if (what < 0 || what > 1) {
            return -1;
        }
        for (int size = 0; size <= 7; size++) {
            for (int set = 0; set < 128; set++) {
                if (Integer.bitCount(set) != size || !covers(now.bits(0), set)) {
                    continue;
                }
                World w = now.without(set);
                if (covers(w.atTheEnd().bits(2), w.bits(0) | w.bits(1))) {
                    return what == 0 ? size : set;
                }
            }
        }
        return -1;
    }

    int hold(int s) {
        if (!isShip(s) || now.gone(s)) {
            return -1;
        }
        int wanted = ship(s, 4) & (now.bits(0) | now.bits(1));
        for (int n = 0; n <= 240; n++) {
            World w = now.copy();
            w.later[s] = n;
            if (covers(w.atTheEnd().bits(2), wanted)) {
                return n;
            }
        }
        return -1;
    }

    int swap(int what) {
        if (what < 0 || what > 2) {
            return -1;
        }
        int most = now.count();
        int first = -1;
        int other = -1;
        for (int a = 0; a < 7; a++) {
            for (int b = a + 1; b < 7; b++) {
                if (queuing(a) && queuing(b)) {
                    int n = now.changed(now.queue.indexOf(a), now.queue.indexOf(b)).count();
                    if (n > most) {
                        most = n;
                        first = a;
                        other = b;
                    }
                }
            }
        }
        return first < 0 ? -1 : what == 0 ? first : what == 1 ? other : most;
    }

    private int wishAmong(int p, List<Integer> places) {
        int own = now.queue.indexOf(p);
        int best = own;
        int fewest = Integer.MAX_VALUE;
        for (int place : places) {
            int n = now.changed(own, place).says(p);
            if (n >= 0 && (n < fewest || n == fewest && place > best)) {
                fewest = n;
                best = place;
            }
        }
        return best;
    }

    private List<Integer> allPlaces() {
        List<Integer> places = new ArrayList<>();
        for (int i = 0; i < now.queue.size(); i++) {
            places.add(i);
        }
        return places;
    }

    int wish(int p) {
        return queuing(p) ? wishAmong(p, allPlaces()) : -1;
    }

    int trade() {
        List<Integer> left = allPlaces();
        Integer[] has = new Integer[left.size()];
        int rounds = 0;
        while (!left.isEmpty()) {
            // From any one, going on as often as there are places leads into a round.
            int at = left.get(left.size() - 1);
            for (int i = 0; i < 7; i++) {
                at = wishAmong(now.queue.get(at), left);
            }
            List<Integer> round = new ArrayList<>();
            int start = at;
            do {
                round.add(at);
                int next = wishAmong(now.queue.get(at), left);
                has[next] = now.queue.get(at);
                at = next;
            } while (at != start);
            rounds += round.size() > 1 ? 1 : 0;
            left.removeAll(round);
        }
        pile = new ArrayList<>(Arrays.asList(has));
        return rounds;
    }

    int delay(int p, int q) {
        if (p == q || !isPair(p) || !queuing(q)) {
            return -1;
        }
        int with = now.says(p);
        int without = now.without(1 << q).says(p);
        return without < 0 ? 0 : with < 0 ? 60 : with - without;
    }

    int grudge(int p) {
        if (!queuing(p) || now.says(p) >= 0) {
            return -1;
        }
        int bits = 0;
        for (int q : now.queue) {
            if (q != p && now.without(1 << q).says(p) >= 0) {
                bits |= 1 << q;
            }
        }
        return bits;
    }

    int blame(int p, int part) {
        if (!queuing(p) || part < 0 || part > 1) {
            return -1000;
        }
        int[] counts = new int[128];
        Arrays.fill(counts, -1);
        int queue = now.bits(0);
        int sum = 0;
        int orders = 0;
        for (List<Integer> order : allOrders()) {
            int ahead = 0;
            for (int i = 0; order.get(i) != p; i++) {
                ahead |= 1 << order.get(i);
            }
            for (int set : new int[] {ahead, ahead | 1 << p}) {
                if (counts[set] < 0) {
                    counts[set] = now.without(queue & ~set).count();
                }
            }
            sum += counts[ahead | 1 << p] - counts[ahead];
            orders++;
        }
        return lowest(sum, orders, part);
    }

    private static int lowest(int upper, int lower, int part) {
        for (int d = lower; d > 1; d--) {
            if (upper % d == 0 && lower % d == 0) {
                upper /= d;
                lower /= d;
            }
        }
        return part == 0 ? upper : lower;
    }

    private World held(int n) {
        World w = now.copy();
        Arrays.fill(w.stranger, n);
        return w.atTheEnd();
    }

    int room() {
        int wanted = now.atTheEnd().bits(2);
        int n = 60;
        while (!covers(held(n).bits(2), wanted)) {
            n--;
        }
        return n;
    }

    int lets(int n) {
        return n < 0 || n > 60 ? -1 : held(n).bits(2);
    }

    int last(int s, int needs) {
        if (!isShip(s) || needs < 1 || needs > 30) {
            return -1;
        }
        int found = -1;
        World w = now.copy();
        for (int n = 0; n <= 240; n++) {
            if (!w.gone(s)) {
                World more = w.copy();
                int p = more.how.size();
                more.how.add(0);
                more.brief.add(false);
                more.pairShip.add(s);
                more.needs.add(needs);
                more.love.add(1);
                more.queue.add(p);
                if (more.says(p) >= 0) {
                    found = n;
                }
            }
            w.minutePasses();
        }
        return found;
    }

    int second() {
        World w = now.copy();
        int rails = told.rails + 1;
        w.railPair = Arrays.copyOf(w.railPair, rails);
        w.railPair[rails - 1] = -1;
        w.railTime = Arrays.copyOf(w.railTime, rails);
        w.stranger = new int[rails];
        return w.count();
    }

    int aside(int what) {
        if (what < 0 || what > 1) {
            return -1;
        }
        int who = -1;
        int most = -1;
        for (int p = 0; p < 7; p++) {
            if (queuing(p)) {
                World w = now.copy();
                w.queue.remove((Integer) p);
                w.queue.add(p);
                if (w.count() > most) {
                    most = w.count();
                    who = p;
                }
            }
        }
        return what == 0 ? who : most;
    }

    int soonest() {
        int found = -1;
        for (int s = told.sails.size() - 1; s >= 0; s--) {
            if (!now.gone(s) && (found < 0 || now.sails(s) <= now.sails(found))) {
                found = s;
            }
        }
        return found;
    }

    int fondest() {
        int found = -1;
        for (int i = now.queue.size() - 1; i >= 0; i--) {
            int p = now.queue.get(i);
            if (found < 0 || told.love.get(p) >= told.love.get(found)) {
                found = p;
            }
        }
        return found;
    }

    int waves() {
        return now.waves;
    }

    int litter() {
        return now.atTheEnd().waves;
    }

    int law(int n) {
        if (n < 1 || n > 60) {
            return -1;
        }
        World w = now.copy();
        w.custom = n;
        return w.count();
    }

    int odds(int n, int part) {
        if (n < 0 || n > 4 || part < 0 || part > 1) {
            return -1;
        }
        int upper = 1;
        int lower = 1;
        for (int i = 0; i < n; i++) {
            int u = 100 - told.quarrels;
            upper *= lowest(u, 100, 0);
            lower *= lowest(u, 100, 1);
        }
        return part == 0 ? upper : lower;
    }

    int lies(int i) {
        return i < 0 || i >= pile.size() ? -2 : pile.get(i);
    }

    int seen(int minutes, int many, boolean is) {
        if (minutes < 0 || minutes > 60 || many < 0 || many > 7 || seens.size() == 30 || told.needs.isEmpty()) {
            return -1;
        }
        Seen s = new Seen();
        s.minutes = minutes;
        s.many = many;
        s.is = is;
        s.toldAt = time;
        seens.add(s);
        return seens.size() - 1;
    }

    boolean untell(int number) {
        if (number < 0 || number >= seens.size() || seens.get(number).untold) {
            return false;
        }
        seens.get(number).untold = true;
        seens.get(number).untoldAt = time;
        return true;
    }

    int later(int by) {
        if (by < 0 || by > 1000 || time + by > 100000) {
            return -1;
        }
        time += by;
        return time;
    }

    private int queueBehind(int needs, int minutes) {
        if (told.queues == null) {
            told.queues = new int[31][61];
            for (int n = 1; n <= 30; n++) {
                World w = new World(told);
                w.needs.set(w.needs.size() - 1, n);
                for (int i = 0; i <= 60; i++) {
                    told.queues[n][i] = w.queue.size();
                    w.minutePasses();
                }
            }
        }
        return told.queues[needs][minutes];
    }

    private List<Integer> fitting(int k) {
        List<Integer> fits = new ArrayList<>();
        for (int needs = 1; needs <= 30 && !told.needs.isEmpty(); needs++) {
            boolean fit = true;
            for (Seen s : seens) {
                if (s.toldAt <= k && !(s.untold && s.untoldAt <= k)) {
                    int out = told.needs.size() - queueBehind(needs, s.minutes);
                    fit &= out >= s.many == s.is;
                }
            }
            if (fit) {
                fits.add(needs);
            }
        }
        return fits;
    }

    int fits(int k) {
        return fitting(k).size();
    }

    int sure(int what, int k) {
        List<Integer> fits = fitting(k);
        if (fits.isEmpty() || what < 0 || what > 1) {
            return -1;
        }
        return fits.get(what == 0 ? 0 : fits.size() - 1);
    }

    int ask(int what, int k) {
        List<Integer> fits = fitting(k);
        if (fits.isEmpty() || what < 0 || what > 1) {
            return -1;
        }
        int best = -1;
        int fewest = 31;
        for (int minutes = 0; minutes <= 60; minutes++) {
            int[] groups = new int[8];
            int most = 0;
            for (int needs : fits) {
                most = Math.max(most, ++groups[queueBehind(needs, minutes)]);
            }
            if (most < fewest) {
                fewest = most;
                best = minutes;
            }
        }
        return what == 0 ? best : fewest;
    }

    int image(int box) {
        if (box < 0 || box > 2) {
            return -1;
        }
        boxes[box] = now;
        return now.minute;
    }

    int back(int box) {
        if (box < 0 || box > 2 || boxes[box] == null) {
            return -1;
        }
        now = boxes[box];
        undos.clear();
        redos.clear();
        return now.minute;
    }

    int about(int what) {
        int[] all = {told.needs.size(), told.sails.size(), now.queue.size(), told.rails, now.bits(2), now.bits(3),
            now.minute, now.seed, undos.size(), redos.size(), seens.size(), time, tape.length(), told.units, pile.size(),
            told.custom, told.quarrels};
        return what < 0 || what >= all.length ? -1 : all[what];
    }
}
