import java.io.IOException;

/** The promises 1 to 19, sentence by sentence: the text, what is now, acts. */
public final class Promises1To19Test {
    private static final int MAX = Integer.MAX_VALUE;
    private static final int MIN = Integer.MIN_VALUE;

    /** One rail: p 0 to 5, q missed, r 5 to 10 when its ship sails. */
    private static final String THREE = "ship a sails 10 waits 5;ship b sails 4;"
            + "pair p ship a needs 5;pair q ship b needs 3 love 4;pair r ship a needs 6 love 2;";

    public static void main(String[] args) throws IOException {
        newObject();
        newObjectAsked();
        feed();
        end();
        quay();
        quayWithFault();
        fault();
        ship();
        pair();
        queue();
        rail();
        length();
        minute();
        change();
        shorten();
        insist();
        giveUp();
        join();
        await();
        undo();
        redo();
        Sentence.finish(1, 19);
    }

    private static void newObject() {
        Sentence.of(1, "An empty QUAY (custom 11, one RAIL).");
        GoodbyeQuay x = new GoodbyeQuay();
        Sentence.row("about", x::about, 0, 0, 0, 1, 0, 0, 0, 0, 0, 0, 0, 0, 0, 0, 0, 11, 0, -1);
        Sentence.row("fault", x::fault, 0, -1, -1);
        Sentence.row("rail 0", n -> x.rail(0, n), -1, 0, -1);
        Sentence.row("rail 1", n -> x.rail(1, n), -1, -1, -1);
        Sentence.each("ship 0", n -> x.ship(0, n), -1, 0, 1, 2, 3, 4);
        Sentence.each("pair 0", n -> x.pair(0, n), -1, 0, 1, 2, 3, 4, 5);
        Sentence.each("queue", x::queue, -1, 0, 1);
        Sentence.alike("what can't be done", -1, x.length(0), x.minute(), x.change(0, 1), x.shorten(0), x.insist(0),
                x.giveUp(0), x.join(0), x.await(0));
        Sentence.due("undo()", x.undo(), false);
        Sentence.due("redo()", x.redo(), false);
        Sentence.each("back", x::back, -1, 0, 1, 2);
    }

    private static void newObjectAsked() {
        GoodbyeQuay x = new GoodbyeQuay();
        Sentence.alike("what has no answer", -1, x.will(0, 0, 0), x.says(0), x.steps(0), x.hold(0), x.wish(0),
                x.delay(0, 1), x.grudge(0), x.last(0, 1), x.aside(0), x.soonest(), x.fondest(), x.sure(0, 0), x.ask(0, 0),
                x.seen(0, 0, true), x.swap(0), x.swap(2));
        Sentence.alike("what is 0", 0, x.missing(), x.empty(), x.count(), x.love(), x.order(), x.dearest(),
                x.shortest(0), x.shortest(1), x.spare(0), x.spare(1), x.trade(), x.lets(60), x.second(), x.waves(),
                x.litter(), x.law(60), x.fits(0));
        Sentence.due("blame(0, 0)", x.blame(0, 0), -1000);
        Sentence.due("room()", x.room(), 60);
        Sentence.due("lies(0)", x.lies(0), -2);
        Sentence.due("odds(4, 0)", x.odds(4, 0), 1);
        Sentence.due("odds(4, 1)", x.odds(4, 1), 1);
        Sentence.row("image", x::image, 0, 0, 0, -1);
        Sentence.row("back", x::back, 0, 0, 0, -1);
        Sentence.due("quay()", x.quay(), 0);
    }

    private static void feed() {
        Sentence.of(2, "Twenty bytes come behind those on the TAPE, of each number the highest first: how many there are;");
        GoodbyeQuay x = new GoodbyeQuay();
        // "rails 2;cust" "om 60;  " and what comes behind it: "draw 999;" and blanks.
        Sentence.due("feed()", x.feed(0x7261696c, 0x7320323b, 0x63757374, 0x6f6d2036, 0x303b2020), 20);
        Sentence.due("feed()", x.feed(0x64726177, 0x20393939, 0x3b202020, 0x20202020, 0x20202020), 40);
        Sentence.due("quay()", x.quay(), 0);
        Sentence.due("rails", x.about(3), 2);
        Sentence.due("custom", x.about(15), 60);
        Sentence.due("draw", x.about(7), 999);
        // A number below 0 has a byte of 128 or more first: no token, at its place.
        x.feed(0x20202020, 0x80202020, 0, 0, 0);
        x.quay();
        Sentence.due("fault(1), byte 128", x.fault(1), 4);
        x.feed(0x20202020, 0x202020ff, -1, -1, -1);
        x.quay();
        Sentence.due("fault(1), byte 255", x.fault(1), 7);

        Sentence.of(2, "NONE, and nothing comes, if there would be more than 1,600.");
        GoodbyeQuay full = new GoodbyeQuay();
        Told.feed(full, "rails 2;" + " ".repeat(1572));
        Sentence.due("feed() at 1580", full.feed(0x20202020, 0x20202020, 0x20202020, 0x20202020, 0x20202020), 1600);
        Sentence.due("feed() at 1600", full.feed(MIN, MIN, MIN, MIN, MIN), -1);
        Sentence.due("bytes", full.about(12), 1600);
        full.end(1581);
        Sentence.due("feed() at 1581", full.feed(MIN, MIN, MIN, MIN, MIN), -1);
        Sentence.due("bytes", full.about(12), 1581);
        Sentence.due("quay(): nothing came", full.quay(), 0);
        Sentence.due("rails", full.about(3), 2);
        Sentence.due("feed() behind that", full.feed(0, 0, 0, 0, 0), 20);
    }

    private static void end() {
        Sentence.of(3, "The TAPE has its first n bytes: n;");
        GoodbyeQuay x = new GoodbyeQuay();
        Told.feed(x, "rails 2;custom 5;draw 7;");
        Sentence.due("end(24), all", x.end(24), 24);
        Sentence.due("end(17)", x.end(17), 17);
        x.quay();
        Sentence.due("custom", x.about(15), 5);
        Sentence.due("draw, cut off", x.about(7), 0);
        x.feed(0x24242424, 0, 0, 0, 0);
        Sentence.due("end(0)", x.end(0), 0);
        Sentence.due("feed() behind end(0)", x.feed(0x7261696c, 0x7320323b, 0x20202020, 0x20202020, 0x20202020), 20);
        Sentence.due("quay(), what was cut off is gone", x.quay(), 0);

        Sentence.of(3, "NONE, doing nothing, if it has not so many, or n is below 0.");
        GoodbyeQuay y = new GoodbyeQuay();
        Sentence.each("end on an empty tape", y::end, -1, 1, -1, MAX, MIN);
        Sentence.due("end(0) on an empty tape", y.end(0), 0);
        y.feed(0x7261696c, 0x7320323b, 0x20202020, 0x20202020, 0x20202020);
        int[] before = Sentence.all(y);
        Sentence.each("end", y::end, -1, 21, 1600, 1601, -1, -20, MAX, MIN);
        Sentence.same("end() that is refused", before, y);
        Sentence.due("end(8)", y.end(8), 8);
        Sentence.each("end, cut already", y::end, -1, 9, 20);
        y.quay();
        Sentence.due("rails", y.about(3), 2);
    }

    private static void quay() {
        Sentence.of(4, "The TAPE (empty then) is the QUAY");
        GoodbyeQuay x = new GoodbyeQuay();
        Told.feed(x, THREE);
        x.quay();
        Sentence.due("bytes", x.about(12), 0);
        Sentence.due("quay() of the empty tape", x.quay(), 0);
        Sentence.due("pairs", x.about(0), 0);

        Sentence.of(4, "(all as told, minute 0, no ACTS are kept, nothing is SEEN, nothing lies there, BOXES are empty then; the TIME stays)");
        String text = THREE + "quarrels 7;draw 5;custom 9;";
        int[] first = Sentence.all(Told.of(text));
        GoodbyeQuay y = Told.of(text);
        y.await(0);
        y.shorten(1);
        y.giveUp(2);
        Told.minutes(y, 6);
        y.order();
        y.seen(3, 1, true);
        y.image(0);
        y.image(2);
        y.join(2);
        y.undo();
        y.later(1000);
        Sentence.due("waves ahead of it", y.waves(), 1);
        Told.feed(y, text);
        Sentence.due("quay()", y.quay(), 3);
        Sentence.due("the time", y.about(11), 1000);
        Sentence.each("back", y::back, -1, 0, 1, 2);
        Sentence.due("undo()", y.undo(), false);
        Sentence.due("redo()", y.redo(), false);
        Sentence.due("untell(0)", y.untell(0), false);
        first[11] = 1000;
        Sentence.same("telling it anew, but for the time", first, y);

        Sentence.of(4, "how many PAIRS;");
        StringBuilder pairs = new StringBuilder("ship a sails 9;");
        for (int i = 0; i <= 7; i++) {
            GoodbyeQuay z = new GoodbyeQuay();
            Told.feed(z, pairs.toString());
            Sentence.due("quay() of " + i, z.quay(), i);
            pairs.append("pair ").append((char) ('a' + i)).append(" ship a needs 1;");
        }
    }

    private static void quayWithFault() {
        Sentence.of(4, "NONE: a FAULT (all stays).");
        GoodbyeQuay x = Told.of(THREE + "rails 2;lasts needs+1;");
        x.minute();
        x.shorten(2);
        x.undo();
        x.order();
        x.seen(3, 1, true);
        x.image(1);
        x.later(7);
        int[] before = Sentence.all(x);
        int says = x.says(0);
        Told.feed(x, "ship z sails 1;pair y ship z needs 9 love 9;custom 3;rails 1;quarrels 9;draw 8;lasts 1+1+1;$");
        Sentence.due("quay()", x.quay(), -1);
        Sentence.due("fault(0)", x.fault(0), 1);
        int[] behind = Sentence.all(x);
        for (int i = 0; i < before.length - 3; i++) {
            Sentence.due("what is, " + i, behind[i], before[i]);
        }
        Sentence.due("says(0)", x.says(0), says);
        Sentence.due("ship(0, 1)", x.ship(0, 1), 5);
        Sentence.due("ship(0, 4)", x.ship(0, 4), 5);
        Sentence.due("pair(1, 2)", x.pair(1, 2), 4);
        Sentence.due("length(2)", x.length(2), 7);
        Sentence.due("redo()", x.redo(), true);
        Sentence.due("fits(0)", x.fits(0), 30);
        Sentence.due("back(1)", x.back(1), 1);
    }

    private static void fault() {
        Sentence.of(5, "Of the latest quay() what 0: its FAULT (0), 1: its place (NONE).");
        GoodbyeQuay x = new GoodbyeQuay();
        Sentence.row("fault ahead of any quay()", x::fault, 0, -1);
        Told.feed(x, "custom 0;");
        Sentence.row("fault ahead of quay()", x::fault, 0, -1);
        x.quay();
        Sentence.row("fault", x::fault, 4, 7);
        x.feed(0, 0, 0, 0, 0);
        x.end(0);
        x.minute();
        Sentence.row("fault behind other calls", x::fault, 4, 7);
        Told.feed(x, "$");
        x.quay();
        Sentence.row("fault at 0", x::fault, 1, 0);
        x.quay();
        Sentence.row("fault of a right one", x::fault, 0, -1);
        Sentence.of(5, "NONE for another what.");
        Told.feed(x, "custom 0;");
        x.quay();
        Sentence.each("fault", x::fault, -1, 2, 3, -1, MAX, MIN);
    }

    private static void ship() {
        Sentence.of(6, "Of a SHIP what 0: when it sails, 1: waits, 2: 1 if it waited, else 0, 3: 1 if GONE, else 0, 4: its PAIRS, as bits;");
        GoodbyeQuay x = Told.of(THREE + "ship c sails 240 waits 60;ship d sails 0;ship e sails 1;pair s ship c needs 1;");
        Sentence.row("ship 0", n -> x.ship(0, n), 10, 5, 0, 0, 5);
        Sentence.row("ship 1", n -> x.ship(1, n), 4, 0, 0, 0, 2);
        Sentence.row("ship 2", n -> x.ship(2, n), 240, 60, 0, 0, 8);
        Sentence.row("ship 3", n -> x.ship(3, n), 0, 0, 0, 1, 0);
        Sentence.row("ship 4", n -> x.ship(4, n), 1, 0, 0, 0, 0);
        x.await(2);
        x.await(1);
        x.minute();
        Sentence.row("ship 2, it waited", n -> x.ship(2, n), 300, 60, 1, 0, 8);
        Sentence.row("ship 1, it waited 0", n -> x.ship(1, n), 4, 0, 1, 0, 2);
        Sentence.row("ship 4, gone now", n -> x.ship(4, n), 1, 0, 0, 1, 0);
        x.giveUp(3);
        Sentence.due("its pairs, one gave up", x.ship(2, 4), 8);
        Sentence.of(6, "NONE if there is none such, or for another what.");
        Sentence.each("ship(n, 0)", n -> x.ship(n, 0), -1, 5, 6, -1, MAX, MIN);
        Sentence.each("ship(n, 4)", n -> x.ship(n, 4), -1, 5, 6, -1, MAX, MIN);
        Sentence.each("ship(0, n)", n -> x.ship(0, n), -1, 5, 6, -1, MAX, MIN);
        GoodbyeQuay one = Told.of("ship a sails 5;");
        Sentence.each("ship(n, 0), one ship", n -> one.ship(n, 0), -1, 1, 4, 5, -1);
    }

    private static void pair() {
        Sentence.of(7, "Of a PAIR what 0: its SHIP, 1: needs, 2: love, 3: how it is (0 in the QUEUE, 1 at a RAIL, 2 it has SAID it, 3 MISSED it, 4 GIVEN up), 4: its place in the QUEUE (NONE if it is not there), 5: 1 if SHORT, else 0;");
        GoodbyeQuay x = Told.of(THREE + "pair s ship a needs 30 love 20;pair t ship b needs 1 love 0;");
        Sentence.row("pair 0", n -> x.pair(0, n), 0, 5, 1, 0, 0, 0);
        Sentence.row("pair 1", n -> x.pair(1, n), 1, 3, 4, 0, 1, 0);
        Sentence.row("pair 3", n -> x.pair(3, n), 0, 30, 20, 0, 3, 0);
        Sentence.row("pair 4", n -> x.pair(4, n), 1, 1, 0, 0, 4, 0);
        x.shorten(3);
        x.giveUp(3);
        x.minute();
        Sentence.row("pair 0, at a rail", n -> x.pair(0, n), 0, 5, 1, 1, -1, 0);
        Sentence.row("pair 1, the first one", n -> x.pair(1, n), 1, 3, 4, 0, 0, 0);
        Sentence.row("pair 3, short, given up", n -> x.pair(3, n), 0, 30, 20, 4, -1, 1);
        Sentence.row("pair 4, a place ahead", n -> x.pair(4, n), 1, 1, 0, 0, 2, 0);
        Told.minutes(x, 5);
        Sentence.row("pair 0, said", n -> x.pair(0, n), 0, 5, 1, 2, -1, 0);
        Sentence.row("pair 1, missed", n -> x.pair(1, n), 1, 3, 4, 3, -1, 0);
        Sentence.of(7, "NONE if there is none such, or for another what.");
        Sentence.each("pair(n, 1)", n -> x.pair(n, 1), -1, 5, 6, 7, -1, MAX, MIN);
        Sentence.each("pair(n, 3)", n -> x.pair(n, 3), -1, 5, 6, 7, -1, MAX, MIN);
        Sentence.each("pair(0, n)", n -> x.pair(0, n), -1, 6, 7, -1, MAX, MIN);
    }

    private static void queue() {
        Sentence.of(8, "Who is at a place of the QUEUE;");
        GoodbyeQuay x = Told.of(THREE);
        Sentence.row("queue", x::queue, 0, 1, 2, -1);
        x.change(0, 2);
        Sentence.row("queue, changed", x::queue, 2, 1, 0, -1);
        Sentence.of(8, "NONE if nobody.");
        Sentence.each("queue", x::queue, -1, 3, 6, 7, -1, MAX, MIN);
        x.giveUp(1);
        Sentence.row("queue, one gave up", x::queue, 2, 0, -1);
        x.minute();
        Sentence.row("queue, one stepped up", x::queue, 0, -1);
        x.giveUp(0);
        Sentence.row("queue, empty", x::queue, -1, -1);
    }

    private static void rail() {
        Sentence.of(9, "Of a RAIL what 0: its PAIR (NONE: it is FREE), 1: for how many minutes yet (0: FREE);");
        GoodbyeQuay x = Told.of(THREE + "rails 2;");
        Sentence.row("rail 1, free", n -> x.rail(1, n), -1, 0);
        x.minute();
        Sentence.row("rail 0", n -> x.rail(0, n), 0, 4);
        Sentence.row("rail 1", n -> x.rail(1, n), 1, 2);
        Told.minutes(x, 2);
        Sentence.row("rail 0", n -> x.rail(0, n), 0, 2);
        Sentence.row("rail 1, free again", n -> x.rail(1, n), -1, 0);
        GoodbyeQuay cut = Told.of("ship a sails 1;pair p ship a needs 5;");
        cut.minute();
        Sentence.row("rail 0, cut off", n -> cut.rail(0, n), -1, 0);
        Sentence.of(9, "NONE if there is none such, or for another what.");
        Sentence.each("rail(n, 0)", n -> x.rail(n, 0), -1, 2, 3, -1, MAX, MIN);
        Sentence.each("rail(n, 1)", n -> x.rail(n, 1), -1, 2, 3, -1, MAX, MIN);
        Sentence.each("rail(0, n)", n -> x.rail(0, n), -1, 2, 3, -1, MAX, MIN);
        Sentence.each("rail(n, 1), one rail", n -> cut.rail(n, 1), -1, 1, 2, -1);
    }

    private static void length() {
        Sentence.of(10, "LENGTH of one in the QUEUE, were it to step up now;");
        GoodbyeQuay x = Told.of("ship a sails 10;ship b sails 1;pair p ship a needs 3;pair q ship b needs 12;pair r ship a needs 11;"
                + "pair s ship a needs 4;");
        Sentence.row("length", x::length, 3, 11, 11, 4);
        Sentence.of(10, "NONE if it is not there, or there is none such.");
        x.giveUp(3);
        x.minute();
        Sentence.row("length", x::length, -1, 11, 11, -1);
        Sentence.each("length", x::length, -1, 4, 7, -1, MAX, MIN);
        Told.minutes(x, 3);
        Sentence.row("length, one has said it, one missed it", x::length, -1, -1, -1, -1);
    }

    private static void minute() {
        Sentence.of(11, "A MINUTE: PAIRS that have SAID it in it, as bits;");
        GoodbyeQuay x = Told.of("rails 2;ship a sails 9;pair p ship a needs 2;pair q ship a needs 2;pair r ship a needs 1;");
        Sentence.due("minute(), none", x.minute(), 0);
        Sentence.due("minute(), two", x.minute(), 3);
        Sentence.due("minute(), those in it alone", x.minute(), 4);
        Sentence.of(11, "NONE, doing nothing, if the quay is EMPTY, or behind 999 of them.");
        int[] before = Sentence.all(x);
        Sentence.due("minute(), empty", x.minute(), -1);
        Sentence.same("minute() that is refused", before, x);
        Sentence.due("minute() of a quay without pairs", Told.of("ship a sails 9;").minute(), -1);
        // No ship sails behind 300, so there are never 999: the longest run goes on till 300.
        GoodbyeQuay y = Told.of("ship a sails 240 waits 60;lasts 60;pair p ship a needs 1;pair q ship a needs 1;"
                + "pair r ship a needs 1;pair s ship a needs 1;pair t ship a needs 1;pair u ship a needs 1;");
        y.await(0);
        for (int i = 0; i < 301; i++) {
            Sentence.due("minute() " + i, y.minute() >= 0, true);
        }
        Sentence.due("minute() behind 301", y.minute(), -1);
        Sentence.due("who said it", y.about(4), 31);
        Sentence.of(11, "(An ACT.)");
        x.undo();
        Sentence.due("undo() of a minute", x.about(6), 2);
        Sentence.due("who said it", x.about(4), 3);
    }

    private static void change() {
        Sentence.of(12, "Two change places: COUNT then;");
        GoodbyeQuay x = Told.of(THREE);
        Sentence.due("change(0, 1)", x.change(0, 1), 2);
        Sentence.row("queue", x::queue, 1, 0, 2);
        Sentence.due("change(2, 1)", x.change(2, 1), 1);
        Sentence.row("queue", x::queue, 2, 0, 1);
        Sentence.of(12, "NONE, doing nothing, if both are one, one is not in the QUEUE, or can't be.");
        x.giveUp(0);
        int[] before = Sentence.all(x);
        Sentence.each("change(n, n)", n -> x.change(n, n), -1, 0, 1, 2, 3, -1, MAX, MIN);
        Sentence.each("change(1, n)", n -> x.change(1, n), -1, 0, 3, 7, -1, MAX, MIN);
        Sentence.each("change(n, 1)", n -> x.change(n, 1), -1, 0, 3, 7, -1, MAX, MIN);
        Sentence.same("change() that is refused", before, x);
        x.minute();
        Sentence.due("change(1, 2), at a rail", x.change(1, 2), -1);
        Sentence.of(12, "(An ACT.)");
        Sentence.due("acts", x.about(8), 4);
        x.undo();
        x.undo();
        x.undo();
        Sentence.row("queue, undone", x::queue, 1, 0, 2);
    }

    private static void shorten() {
        Sentence.of(13, "It agrees on the SHORT form: LENGTH then;");
        GoodbyeQuay x = Told.of(THREE);
        Sentence.due("shorten(0)", x.shorten(0), 2);
        Sentence.due("shorten(1)", x.shorten(1), 1);
        Sentence.of(13, "NONE, doing nothing, if it did, is not in the QUEUE, or there is none such.");
        x.giveUp(2);
        int[] before = Sentence.all(x);
        Sentence.each("shorten", x::shorten, -1, 0, 1, 2, 3, 7, 31, 32, 33, 34, -1, MAX, MIN);
        Sentence.same("shorten() that is refused", before, x);
        GoodbyeQuay y = Told.of(THREE);
        y.minute();
        Sentence.due("shorten(0), at a rail", y.shorten(0), -1);
        Told.minutes(y, 5);
        Sentence.due("shorten(0), it said it", y.shorten(0), -1);
        Sentence.due("shorten(1), it missed it", y.shorten(1), -1);
        Sentence.of(13, "(An ACT.)");
        Sentence.due("acts", x.about(8), 3);
        x.undo();
        x.undo();
        Sentence.due("pair(1, 5), undone", x.pair(1, 5), 0);
    }

    private static void insist() {
        Sentence.of(14, "It does not any more: likewise;");
        GoodbyeQuay x = Told.of(THREE);
        x.shorten(0);
        Sentence.due("insist(0)", x.insist(0), 5);
        Sentence.due("pair(0, 5)", x.pair(0, 5), 0);
        Sentence.of(14, "NONE, doing nothing, if it did not, is not in the QUEUE, or there is none such.");
        x.shorten(2);
        x.giveUp(2);
        int[] before = Sentence.all(x);
        Sentence.each("insist", x::insist, -1, 0, 1, 2, 3, 7, 34, -1, MAX, MIN);
        Sentence.same("insist() that is refused", before, x);
        x.shorten(0);
        x.minute();
        Sentence.due("insist(0), at a rail", x.insist(0), -1);
        Sentence.of(14, "(An ACT.)");
        GoodbyeQuay y = Told.of(THREE);
        y.shorten(1);
        y.insist(1);
        Sentence.due("acts", y.about(8), 2);
        y.undo();
        Sentence.due("pair(1, 5), undone", y.pair(1, 5), 1);
    }

    private static void giveUp() {
        Sentence.of(15, "It GIVES up: how many are in the QUEUE then;");
        GoodbyeQuay x = Told.of(THREE);
        Sentence.due("giveUp(1)", x.giveUp(1), 2);
        Sentence.row("queue", x::queue, 0, 2, -1);
        Sentence.due("giveUp(0)", x.giveUp(0), 1);
        Sentence.due("giveUp(2), the last one", x.giveUp(2), 0);
        Sentence.due("waves()", x.waves(), 0);
        Sentence.of(15, "NONE, doing nothing, if it is not there, or there is none such.");
        int[] before = Sentence.all(x);
        Sentence.each("giveUp", x::giveUp, -1, 0, 1, 2, 3, 7, -1, MAX, MIN);
        Sentence.same("giveUp() that is refused", before, x);
        GoodbyeQuay y = Told.of(THREE);
        y.minute();
        Sentence.due("giveUp(0), at a rail", y.giveUp(0), -1);
        Told.minutes(y, 5);
        Sentence.due("giveUp(0), it said it", y.giveUp(0), -1);
        Sentence.due("giveUp(1), it missed it", y.giveUp(1), -1);
        Sentence.of(15, "(An ACT.)");
        Sentence.due("acts", x.about(8), 3);
        x.undo();
        x.undo();
        x.undo();
        Sentence.row("queue, undone", x::queue, 0, 1, 2, -1);
    }

    private static void join() {
        Sentence.of(16, "It joins: its place in the QUEUE;");
        GoodbyeQuay x = Told.of(THREE);
        x.giveUp(0);
        Sentence.due("join(0)", x.join(0), 2);
        Sentence.row("queue", x::queue, 1, 2, 0, -1);
        x.giveUp(1);
        x.giveUp(2);
        x.giveUp(0);
        Sentence.due("join(2), the queue was empty", x.join(2), 0);
        Sentence.due("pair(2, 3)", x.pair(2, 3), 0);
        Sentence.of(16, "NONE, doing nothing, if it has not GIVEN up or MISSED it, its SHIP is GONE, or there is none such.");
        int[] before = Sentence.all(x);
        Sentence.each("join", x::join, -1, 2, 3, 7, -1, MAX, MIN);
        Sentence.same("join() that is refused", before, x);
        Told.minutes(x, 3);
        Sentence.due("join(2), at a rail", x.join(2), -1);
        Sentence.due("join(1) at 3", x.join(1), 0);
        x.undo();
        x.minute();
        Sentence.due("join(1) at 4, its ship is gone", x.join(1), -1);
        Told.minutes(x, 2);
        Sentence.due("join(2), it said it", x.join(2), -1);
        GoodbyeQuay y = Told.of(THREE);
        Told.minutes(y, 6);
        Sentence.due("join(1), it missed it, its ship is gone", y.join(1), -1);
        Sentence.of(16, "(An ACT.)");
        GoodbyeQuay z = Told.of(THREE);
        z.giveUp(0);
        z.join(0);
        Sentence.due("acts", z.about(8), 2);
        z.undo();
        Sentence.due("pair(0, 3), undone", z.pair(0, 3), 4);
        Sentence.row("queue, undone", z::queue, 1, 2, -1);
    }

    private static void await() {
        Sentence.of(17, "A SHIP waits: when it sails then;");
        GoodbyeQuay x = Told.of(THREE + "ship c sails 240 waits 60;ship d sails 0 waits 60;");
        Sentence.due("await(0)", x.await(0), 15);
        Sentence.due("await(1), by 0", x.await(1), 4);
        Sentence.due("await(2)", x.await(2), 300);
        Sentence.of(17, "NONE, doing nothing, if it waited already, is GONE, or there is none such.");
        int[] before = Sentence.all(x);
        Sentence.each("await, it waited", x::await, -1, 0, 1, 2);
        Sentence.each("await, gone", x::await, -1, 3);
        Sentence.each("await, none such", x::await, -1, 4, 5, 32, -1, MAX, MIN);
        Sentence.same("await() that is refused", before, x);
        GoodbyeQuay y = Told.of("ship a sails 2 waits 3;ship b sails 9;pair p ship b needs 9;");
        Told.minutes(y, 2);
        Sentence.due("await(0) at 2", y.await(0), -1);
        y.undo();
        Sentence.due("await(0) at 1", y.await(0), 5);
        Sentence.of(17, "(An ACT.)");
        Sentence.due("acts", x.about(8), 3);
        x.undo();
        Sentence.due("ship(2, 0), undone", x.ship(2, 0), 240);
        Sentence.due("await(2) again", x.await(2), 300);
    }

    private static void undo() {
        Sentence.of(18, "UNDO: true; false if there is none.");
        GoodbyeQuay x = Told.of(THREE);
        Sentence.due("undo(), no act", x.undo(), false);
        int[] before = Sentence.all(x);
        x.minute();
        Sentence.due("undo()", x.undo(), true);
        before[9] = 1;
        Sentence.same("an act and its undo(), but for what can be redone", before, x);
        Sentence.due("undo(), none left", x.undo(), false);
        Sentence.same("undo() that is refused", before, x);
        x.minute();
        x.image(0);
        x.back(0);
        Sentence.due("undo() behind back()", x.undo(), false);
        x.minute();
        x.quay();
        Sentence.due("undo() behind quay()", x.undo(), false);
    }

    private static void redo() {
        Sentence.of(19, "REDO: true; false if there is none.");
        GoodbyeQuay x = Told.of(THREE + "quarrels 100;");
        Sentence.due("redo(), nothing undone", x.redo(), false);
        x.minute();
        int[] before = Sentence.all(x);
        Sentence.due("redo(), nothing undone", x.redo(), false);
        x.undo();
        Sentence.due("redo()", x.redo(), true);
        Sentence.same("undo() and redo()", before, x);
        Sentence.due("redo(), none left", x.redo(), false);
        x.undo();
        Sentence.due("giveUp(7), refused", x.giveUp(7), -1);
        Sentence.due("redo() behind a refused act", x.redo(), true);
        x.undo();
        x.giveUp(2);
        Sentence.due("redo() behind an act", x.redo(), false);
        x.undo();
        x.image(0);
        x.back(0);
        Sentence.due("redo() behind back()", x.redo(), false);
    }
}
