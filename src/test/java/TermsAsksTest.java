import java.io.IOException;

/** The third and fourth paragraphs of the document's Terms, sentence by sentence: what is asked, what is seen. */
public final class TermsAsksTest {
    private static final int ASKED = 103;
    private static final int SEEN = 104;
    private static final String FAR = "ship far sails 200;";

    public static void main(String[] args) throws IOException {
        byWhatIsNow();
        countAndLove();
        orders();
        dearest();
        shortForms();
        spares();
        holds();
        changes();
        wishes();
        trades();
        delays();
        blames();
        rooms();
        howRailsAreHeld();
        lasts();
        secondRail();
        asides();
        oddsOfNoQuarrel();
        tellingAndUntelling();
        whatIsSeen();
        fitsAndAsks();
        Sentence.finish(ASKED, SEEN);
    }

    private static void lie(GoodbyeQuay x, int... want) {
        for (int i = 0; i < want.length; i++) {
            Sentence.due("lies(" + i + ")", x.lies(i), want[i]);
        }
        Sentence.due("lies(" + want.length + ")", x.lies(want.length), -2);
    }

    private static String pairsOf(String ship, int... needs) {
        StringBuilder b = new StringBuilder();
        for (int i = 0; i < needs.length; i++) {
            b.append("pair ").append(ship).append((char) ('a' + i)).append(" ship ").append(ship);
            b.append(" needs ").append(needs[i]).append(";");
        }
        return b.toString();
    }

    private static void byWhatIsNow() {
        Sentence.of(ASKED, "(By what is now; nothing is done; no quarrels, if not told otherwise; MINUTES go by till the quay is EMPTY.)");
        GoodbyeQuay x = Told.of(FAR + "ship a sails 12;quarrels 100;" + pairsOf("far", 4, 5) + pairsOf("a", 3, 2));
        x.trade();
        int[] before = Sentence.all(x);
        Sentence.due("says(0), no quarrel", x.says(0), 4);
        Sentence.due("empty(), no quarrels", x.empty(), 13);
        Sentence.due("count()", x.count(), 3);
        Sentence.due("will(0, 4, 1), a quarrel", x.will(0, 4, 1), 1);
        Sentence.due("room()", x.room(), 0);
        Sentence.due("hold(1)", x.hold(1), 2);
        Sentence.due("last(0, 3)", x.last(0, 3), 197);
        Sentence.due("second()", x.second(), 4);
        Sentence.due("law(1)", x.law(1), 4);
        Sentence.due("shortest(0)", x.shortest(0), 1);
        Sentence.due("spare(0)", x.spare(0), 1);
        Sentence.due("aside(0)", x.aside(0), 0);
        Sentence.due("swap(2)", x.swap(2), 4);
        Sentence.same("questions", before, x);
        x.minute();
        Sentence.due("says(0), a quarrel that was", x.says(0), 6);
    }

    private static void countAndLove() {
        Sentence.of(ASKED, "SAYS a PAIR, if it will have SAID it then.");
        Sentence.due("says(0), just in time", Told.of("ship a sails 5;" + pairsOf("a", 5)).says(0), 5);
        Sentence.due("says(0), a minute too long", Told.of("ship a sails 4;" + pairsOf("a", 5)).says(0), -1);
        Sentence.due("says(0), gone", Told.of("ship a sails 0;" + pairsOf("a", 5)).says(0), -1);

        Sentence.of(ASKED, "COUNT is how many PAIRS will have SAID it; LOVE, what of love these have together.");
        Sentence.due("count() of none", Told.of(FAR).count(), 0);
        Sentence.due("love() of none", Told.of(FAR).love(), 0);
        Sentence.due("count() of seven", Told.of(FAR + pairsOf("far", 1, 2, 3, 4, 5, 6, 7)).count(), 7);
        StringBuilder most = new StringBuilder(FAR);
        for (char c = 'a'; c < 'h'; c++) {
            most.append("pair ").append(c).append(" ship far needs 1 love 20;");
        }
        GoodbyeQuay x = Told.of(most.toString());
        Sentence.due("love() of seven with 20", x.love(), 140);
        Told.minutes(x, 3);
        x.giveUp(6);
        Sentence.due("count(), three have, one gave up", x.count(), 6);
        Sentence.due("love(), three have, one gave up", x.love(), 120);
        Told.minutes(x, 3);
        Sentence.due("count(), all have", x.count(), 6);
        x = Told.of("ship a sails 0;" + pairsOf("a", 1, 1));
        Sentence.due("count(), all miss it", x.count(), 0);
        Sentence.due("love(), all miss it", x.love(), 0);
        Sentence.due("love() of love 0", Told.of(FAR + "pair p ship far needs 1 love 0;").love(), 0);
    }

    private static void orders() {
        Sentence.of(ASKED, "ORDER: the one of those in the QUEUE by which COUNT is most; of like ones the first (by numbers).");
        GoodbyeQuay x = Told.of(FAR + pairsOf("far", 1, 2, 3));
        x.change(0, 2);
        Sentence.due("order(), all say it", x.order(), 3);
        lie(x, 0, 1, 2);
        x = Told.of("ship a sails 0;" + pairsOf("a", 1, 2));
        x.change(0, 1);
        Sentence.due("order(), none says it", x.order(), 0);
        lie(x, 0, 1);
        x = Told.of("ship a sails 6;" + pairsOf("a", 6, 3, 3));
        Sentence.due("order(), the most", x.order(), 2);
        lie(x, 1, 2, 0);
        // The one order by which all say it is the very last.
        x = Told.of("ship a sails 7;ship b sails 6;ship c sails 4;ship d sails 1;pair p ship a needs 1;pair q ship b needs 2;"
                + "pair r ship c needs 3;pair s ship d needs 1;");
        Sentence.due("order(), the last one", x.order(), 4);
        lie(x, 3, 2, 1, 0);
        x.giveUp(2);
        x.minute();
        Sentence.due("order(), one has said it", x.order(), 2);
        lie(x, 1, 3);
        Told.minutes(x, 5);
        Sentence.due("order(), nobody in the queue", x.order(), 2);
        lie(x);
    }

    private static void dearest() {
        Sentence.of(ASKED, "DEAREST: that by which LOVE is most; of like ones the first.");
        GoodbyeQuay x = Told.of("ship a sails 6;pair p ship a needs 3;pair q ship a needs 3;pair r ship a needs 6 love 9;");
        Sentence.due("order()", x.order(), 2);
        lie(x, 0, 1, 2);
        Sentence.due("dearest(), fewer with more love", x.dearest(), 9);
        lie(x, 2, 0, 1);
        x = Told.of("ship a sails 6;pair p ship a needs 6 love 0;pair q ship a needs 6 love 0;");
        x.change(0, 1);
        Sentence.due("dearest() without love", x.dearest(), 0);
        lie(x, 0, 1);
        x = Told.of("ship a sails 6;pair p ship a needs 6 love 2;pair q ship a needs 4 love 1;pair r ship a needs 2 love 1;");
        Sentence.due("dearest(), of like ones the first", x.dearest(), 2);
        lie(x, 0, 1, 2);
        Sentence.due("dearest() of nobody", Told.of(FAR).dearest(), 0);
    }

    private static void shortForms() {
        Sentence.of(ASKED, "SHORTEN: the fewest in the QUEUE that agree on the SHORT form besides those that did so that all in the QUEUE and at a RAIL SAY it; of like ones the least set as bits.");
        shortest("ship a sails 6;" + pairsOf("a", 4, 4), 1, 1);
        shortest("ship a sails 4;" + pairsOf("a", 4, 4), 2, 3);
        shortest("ship a sails 3;" + pairsOf("a", 4, 4), -1, -1);
        shortest("ship a sails 8;" + pairsOf("a", 4, 4), 0, 0);
        shortest("ship a sails 8;" + pairsOf("a", 4, 4, 4), 2, 3);
        // Fewest goes ahead of least: the third one alone, not the first two.
        shortest("ship a sails 12;" + pairsOf("a", 4, 4, 8), 1, 4);
        shortest("ship a sails 7;" + pairsOf("a", 2, 2, 2, 2, 2, 2, 2), 7, 127);
        shortest("ship a sails 6;" + pairsOf("a", 2, 2, 2, 2, 2, 2, 2), -1, -1);
        shortest(FAR, 0, 0);
        GoodbyeQuay x = Told.of("ship a sails 8;" + pairsOf("a", 4, 4, 4));
        x.shorten(0);
        Sentence.due("shortest(0), one did", x.shortest(0), 1);
        Sentence.due("shortest(1), one did", x.shortest(1), 2);
        x = Told.of("ship a sails 3;" + FAR + pairsOf("a", 4) + pairsOf("far", 1));
        Sentence.due("shortest(1), it will do", x.shortest(1), 1);
        x.minute();
        Sentence.due("shortest(1), it is at a rail by now", x.shortest(1), -1);
        Told.minutes(x, 2);
        Sentence.due("shortest(1), it missed it by now", x.shortest(1), 0);
    }

    private static void shortest(String text, int many, int who) {
        GoodbyeQuay x = Told.of(text);
        Sentence.due("shortest(0) of " + text, x.shortest(0), many);
        Sentence.due("shortest(1) of " + text, x.shortest(1), who);
    }

    private static void spares() {
        Sentence.of(ASKED, "SPARE: the fewest in the QUEUE that GIVE up now so that all others in the QUEUE, and all at a RAIL, SAY it; of like ones the least set as bits.");
        spare("ship a sails 6;" + pairsOf("a", 4, 4), 1, 1);
        spare("ship a sails 8;" + pairsOf("a", 4, 4), 0, 0);
        spare("ship a sails 3;" + pairsOf("a", 4, 4), 2, 3);
        spare("ship a sails 4;" + pairsOf("a", 4, 4, 4), 2, 3);
        spare("ship a sails 8;" + pairsOf("a", 4, 4, 8), 1, 4);
        spare("ship a sails 0;" + pairsOf("a", 4, 4, 4, 4, 4, 4, 4), 7, 127);
        spare(FAR, 0, 0);
        GoodbyeQuay x = Told.of("ship a sails 3;" + FAR + pairsOf("a", 4) + pairsOf("far", 1));
        Sentence.due("spare(1)", x.spare(1), 1);
        x.minute();
        Sentence.due("spare(0), one at a rail will be cut off", x.spare(0), -1);
        Sentence.due("spare(1), one at a rail will be cut off", x.spare(1), -1);
    }

    private static void spare(String text, int many, int who) {
        GoodbyeQuay x = Told.of(text);
        Sentence.due("spare(0) of " + text, x.spare(0), many);
        Sentence.due("spare(1) of " + text, x.spare(1), who);
    }

    private static void holds() {
        Sentence.of(ASKED, "HOLD of a SHIP: how many minutes later it must sail at the least (0 .. 240) so that all PAIRS of it in the QUEUE and at a RAIL SAY it.");
        Sentence.due("hold(0), 0", Told.of("ship a sails 5;" + pairsOf("a", 5)).hold(0), 0);
        Sentence.due("hold(0), 1", Told.of("ship a sails 5;" + pairsOf("a", 6)).hold(0), 1);
        Sentence.due("hold(0), no pairs", Told.of("ship a sails 5;").hold(0), 0);
        String five = pairsOf("a", 1, 1, 1, 1, 1) + "lasts 60;";
        Sentence.due("hold(0), 239", Told.of("ship a sails 61;" + five).hold(0), 239);
        Sentence.due("hold(0), 240", Told.of("ship a sails 60;" + five).hold(0), 240);
        Sentence.due("hold(0), 241 by none", Told.of("ship a sails 59;" + five).hold(0), -1);
        GoodbyeQuay x = Told.of("ship a sails 5;ship b sails 4;" + pairsOf("a", 9) + pairsOf("b", 3));
        Sentence.due("hold(1), ahead of it sails a at 5", x.hold(1), 4);
        Sentence.due("hold(0)", x.hold(0), 4);
        x.minute();
        Sentence.due("hold(0), at a rail", x.hold(0), 4);
        Sentence.due("hold(1), in the queue", x.hold(1), 4);
        x.giveUp(1);
        Sentence.due("hold(1), it gave up", x.hold(1), 0);
    }

    private static void changes() {
        Sentence.of(ASKED, "CHANGE: the two in the QUEUE by whose changing places COUNT is most, if that is more than now; of like ones the first (the lesser number, then the other one).");
        swap(FAR + pairsOf("far", 1, 2), -1, -1, -1);
        swap(FAR + pairsOf("far", 1), -1, -1, -1);
        swap(FAR, -1, -1, -1);
        // First and second, first and third are alike.
        swap("ship a sails 4;ship b sails 5;pair p ship b needs 3;pair q ship a needs 2;pair r ship a needs 2;", 0, 1, 2);
        // First and third, second and third are alike.
        swap("ship a sails 3;" + FAR + pairsOf("far", 2, 2) + pairsOf("a", 1), 0, 2, 3);
        // The most is that of the second and the third alone.
        swap("ship a sails 3;ship b sails 9;pair p ship a needs 1;pair q ship b needs 6;pair r ship a needs 2;", 1, 2, 3);
        GoodbyeQuay x = Told.of("ship a sails 3;" + FAR + pairsOf("far", 2, 2) + pairsOf("a", 1));
        x.change(0, 1);
        Sentence.due("swap(0), numbers, not places", x.swap(0), 0);
        Sentence.due("swap(1), numbers, not places", x.swap(1), 2);
        x.giveUp(0);
        Sentence.due("swap(0), it gave up", x.swap(0), -1);
    }

    private static void swap(String text, int first, int other, int count) {
        GoodbyeQuay x = Told.of(text);
        Sentence.due("swap(0) of " + text, x.swap(0), first);
        Sentence.due("swap(1) of " + text, x.swap(1), other);
        Sentence.due("swap(2) of " + text, x.swap(2), count);
    }

    private static void wishes() {
        Sentence.of(ASKED, "WISH of one in the QUEUE: the place in it (0 first) with whose holder it should change so that it will have SAID it, by the fewest minutes from now;");
        GoodbyeQuay x = Told.of(FAR + pairsOf("far", 3, 3, 3));
        for (int p = 0; p < 3; p++) {
            Sentence.due("wish(" + p + ")", x.wish(p), 0);
        }
        // At the first place r would last too long for its ship, at the others it would not.
        x = Told.of("ship a sails 30;" + pairsOf("a", 1, 1) + "pair r ship a needs 1 love 5;"
                + "lasts (behind=2 and love=5)*38+2;");
        Sentence.due("wish(2), not the first place", x.wish(2), 1);
        x.change(2, 1);
        Sentence.due("wish(2), the place that it has", x.wish(2), 1);
        Sentence.of(ASKED, "of like ones the place most behind");
        x = Told.of("rails 2;" + FAR + pairsOf("far", 5, 5, 5, 5));
        for (int p = 0; p < 4; p++) {
            Sentence.due("wish(" + p + "), two rails", x.wish(p), 1);
        }
        Sentence.of(ASKED, "(if none will do: its own place).");
        x = Told.of("ship a sails 4;" + FAR + pairsOf("far", 5) + pairsOf("a", 5, 5));
        Sentence.due("wish(1), none will do", x.wish(1), 1);
        Sentence.due("wish(2), none will do", x.wish(2), 2);
        Sentence.due("wish(0) of one alone", Told.of("ship a sails 0;" + pairsOf("a", 5)).wish(0), 0);
    }

    private static void trades() {
        Sentence.of(ASKED, "TRADE: each in the QUEUE points to who holds the place it WISHES;");
        GoodbyeQuay x = Told.of("ship a sails 100;pair p ship a needs 30;pair q ship a needs 2;lasts needs*behind;");
        Sentence.due("wish(0)", x.wish(0), 1);
        Sentence.due("wish(1)", x.wish(1), 0);
        Sentence.due("trade()", x.trade(), 1);
        lie(x, 1, 0);
        Sentence.of(ASKED, "each round of such pointing (who points to itself is one, too) goes out with the places pointed to,");
        x = Told.of(FAR + pairsOf("far", 3, 3, 3));
        x.change(0, 2);
        Sentence.due("trade(), each points to the first, then to the next", x.trade(), 0);
        lie(x, 2, 1, 0);
        Sentence.due("trade() of nobody", Told.of(FAR).trade(), 0);
        Sentence.of(ASKED, "the others point anew among those left (WISH told among their places alone, as the QUEUE is now), and so on: who has which place then.");
        // Each lasts long at one place alone; p would rather be last, r first; q is left with the place between.
        x = Told.of(FAR + "pair p ship far needs 30;pair q ship far needs 2;pair r ship far needs 1;lasts needs*behind*behind;");
        Sentence.due("wish(0)", x.wish(0), 2);
        Sentence.due("wish(1)", x.wish(1), 0);
        Sentence.due("wish(2)", x.wish(2), 0);
        Sentence.due("trade()", x.trade(), 1);
        lie(x, 2, 1, 0);
        // p stays; then q and r, among the places 1 and 2, change: q is quick as the last one, r with one behind it.
        x = Told.of(FAR + "pair p ship far needs 1 love 9;pair q ship far needs 20 love 0;pair r ship far needs 9 love 1;"
                + "lasts needs*(not behind=love)+1;");
        Sentence.due("trade()", x.trade(), 1);
        lie(x, 0, 2, 1);
    }

    private static void delays() {
        Sentence.of(ASKED, "DELAY of one PAIR by another one: by how many minutes later it has SAID it than were the other one (in the QUEUE) not there");
        GoodbyeQuay x = Told.of(FAR + pairsOf("far", 4, 5, 1));
        Sentence.due("delay(1, 0)", x.delay(1, 0), 4);
        Sentence.due("delay(2, 1)", x.delay(2, 1), 5);
        Sentence.due("delay(0, 1), by one behind it", x.delay(0, 1), 0);
        Told.minutes(x, 4);
        Sentence.due("delay(0, 1), it has said it", x.delay(0, 1), 0);
        Sentence.of(ASKED, "(below 0: sooner;");
        x = Told.of(FAR + pairsOf("far", 1, 1) + "lasts 10-behind*4;");
        Sentence.due("delay(0, 1)", x.delay(0, 1), -4);
        Sentence.of(ASKED, "60, if it does not SAY it, but would then;");
        x = Told.of("ship a sails 5;" + pairsOf("a", 1, 5));
        Sentence.due("delay(1, 0)", x.delay(1, 0), 60);
        Sentence.of(ASKED, "0, if it would not then).");
        x = Told.of("ship a sails 8;" + pairsOf("a", 1, 1) + "lasts 10-behind*4;");
        Sentence.due("delay(0, 1), it does, but would not", x.delay(0, 1), 0);
        x = Told.of("ship a sails 5;" + pairsOf("a", 1, 6));
        Sentence.due("delay(1, 0), it does not, nor would it", x.delay(1, 0), 0);
        x.giveUp(1);
        Sentence.due("delay(1, 0), it gave up", x.delay(1, 0), 0);
    }

    private static void blame(GoodbyeQuay x, int pair, int upper, int lower) {
        Sentence.due("blame(" + pair + ", 0)", x.blame(pair, 0), upper);
        Sentence.due("blame(" + pair + ", 1)", x.blame(pair, 1), lower);
    }

    private static void blames() {
        Sentence.of(ASKED, "BLAME of one in the QUEUE: over all orders of those in the QUEUE, in each of which they join one by one behind one another in the order of the QUEUE as it is, by how many COUNT is more when it joins those ahead of it in that order (none others being there), together, over how many orders there are.");
        // Of seven alike three say it: each has three sevenths.
        GoodbyeQuay x = Told.of("ship a sails 3;" + pairsOf("a", 1, 1, 1, 1, 1, 1, 1));
        for (int p = 0; p < 7; p++) {
            blame(x, p, 3, 7);
        }
        blame(Told.of(FAR + pairsOf("far", 1)), 0, 1, 1);
        blame(Told.of("ship a sails 0;" + pairsOf("a", 1)), 0, 0, 1);
        // p never says it, and keeps q from it in the one order of two in which it joins behind q.
        x = Told.of("ship a sails 5;" + pairsOf("a", 6, 3));
        blame(x, 0, -1, 2);
        blame(x, 1, 1, 2);
        x.change(0, 1);
        blame(x, 0, 0, 1);
        blame(x, 1, 1, 1);
        // Who is at a rail or has said it counts with and without.
        x = Told.of(FAR + pairsOf("far", 1, 2, 3, 4));
        x.minute();
        x.minute();
        blame(x, 2, 1, 1);
        blame(x, 3, 1, 1);
    }

    private static void rooms() {
        Sentence.of(ASKED, "ROOM: the most minutes (0 .. 60) for which somebody without a ticket may hold each RAIL,");
        int[][] sailsAndRoom = {{5, 0}, {6, 1}, {64, 59}, {65, 60}, {66, 60}, {240, 60}, {4, 60}, {0, 60}};
        for (int[] row : sailsAndRoom) {
            GoodbyeQuay x = Told.of("ship a sails " + row[0] + ";" + pairsOf("a", 5));
            Sentence.due("room(), a ship that sails at " + row[0], x.room(), row[1]);
        }
        Sentence.of(ASKED, "so that all who SAY it as it is SAY it still");
        GoodbyeQuay x = Told.of("ship a sails 5;" + FAR + pairsOf("a", 6) + pairsOf("far", 1));
        Sentence.due("room(), one misses it as it is", x.room(), 60);
        x = Told.of("ship a sails 20;" + pairsOf("a", 1) + "lasts (minute>4 and minute<10)*20+1;");
        Sentence.due("room(), the most though less may not do", x.room(), 19);
        Sentence.due("lets(5), less", x.lets(5), 0);
    }

    private static void howRailsAreHeld() {
        Sentence.of(ASKED, "from now on if it is FREE, else from when it is FREE next,");
        GoodbyeQuay x = Told.of("ship a sails 10;" + FAR + pairsOf("far", 3) + pairsOf("a", 4));
        Sentence.due("room(), from now on", x.room(), 3);
        x.minute();
        Sentence.due("room(), from minute 3 on", x.room(), 3);
        Sentence.due("lets(60), who is at the rail says it", x.lets(60), 1);
        x.minute();
        x.minute();
        Sentence.due("room(), from now on", x.room(), 3);
        // q has left one rail at 2; p holds the other one till 5; r needs 4 by 12.
        x = Told.of("rails 2;ship a sails 12;" + pairsOf("a", 5, 2, 4));
        x.minute();
        x.minute();
        Sentence.due("room(), one rail is free", x.room(), 6);
        // One at a rail is cut off at 2; then the rail is free.
        x = Told.of("ship b sails 2;ship a sails 10;pair p ship b needs 9;pair q ship a needs 4;");
        x.minute();
        Sentence.due("room(), from when one is cut off", x.room(), 4);
        Sentence.of(ASKED, "(at such a RAIL nobody steps up till then; a MINUTE in which it begins counts).");
        x = Told.of("ship a sails 5;" + pairsOf("a", 4));
        Sentence.due("lets(0)", x.lets(0), 1);
        Sentence.due("lets(1), the minute that begins now", x.lets(1), 1);
        Sentence.due("lets(2)", x.lets(2), 0);
        x = Told.of("ship a sails 8;" + FAR + pairsOf("far", 3) + pairsOf("a", 4));
        x.minute();
        Sentence.due("lets(1), behind one at a rail", x.lets(1), 3);
        Sentence.due("lets(2), behind one at a rail", x.lets(2), 1);
    }

    private static void lasts() {
        Sentence.of(ASKED, "LAST: the most MINUTES (0 .. 240; they go by though the quay be EMPTY) behind which a PAIR more");
        Sentence.due("last(0, 5), 0", Told.of("ship a sails 5;").last(0, 5), 0);
        Sentence.due("last(0, 6), at none", Told.of("ship a sails 5;").last(0, 6), -1);
        GoodbyeQuay x = Told.of("ship a sails 240 waits 1;");
        Sentence.due("last(0, 1), 239", x.last(0, 1), 239);
        x.await(0);
        Sentence.due("last(0, 1), 240", x.last(0, 1), 240);
        Sentence.due("last(0, 2), 239", x.last(0, 2), 239);
        x = Told.of("ship a sails 240 waits 60;");
        x.await(0);
        Sentence.due("last(0, 1), 240 at the most", x.last(0, 1), 240);
        x = Told.of(FAR + "ship a sails 50;" + pairsOf("far", 4));
        Sentence.due("last(1, 7), the quay is empty from 4 on", x.last(1, 7), 43);
        Told.minutes(x, 4);
        Sentence.due("last(1, 7), the quay is empty", x.last(1, 7), 39);
        Sentence.of(ASKED, "of a SHIP that is not GONE then,");
        Sentence.due("last(0, 1)", Told.of("ship a sails 5;").last(0, 1), 4);
        Sentence.due("last(0, 1), gone", Told.of("ship a sails 0;").last(0, 1), -1);
        Sentence.of(ASKED, "that needs so much (love 1, not SHORT),");
        Sentence.due("last(0, 7), love 1", Told.of("ship a sails 30;lasts love*5;").last(0, 7), 25);
        x = Told.of("ship a sails 30;" + pairsOf("a", 8, 8, 8, 8, 8, 8, 8));
        for (int p = 0; p < 7; p++) {
            x.shorten(p);
        }
        // Seven short ones take 28 minutes.
        Sentence.due("last(0, 2)", x.last(0, 2), 28);
        Sentence.due("last(0, 3), not short", x.last(0, 3), -1);
        Sentence.of(ASKED, "could join last in the QUEUE and SAY it.");
        x = Told.of("ship a sails 12;" + FAR + pairsOf("far", 4, 4));
        Sentence.due("last(0, 4), behind both", x.last(0, 4), 8);
        Sentence.due("last(0, 5), behind both", x.last(0, 5), -1);
        // It is behind those in the queue when it joins: up to 15 the second one lasts 15 minutes by it, then 20.
        x = Told.of("ship a sails 50;" + pairsOf("a", 1, 1) + "lasts 20-behind*5;");
        Sentence.due("last(0, 1), others last less by it", x.last(0, 1), 15);
        // A minute less: it must join at once, so that both last less by it (10, 15, then 20 itself).
        x = Told.of("ship a sails 49;" + pairsOf("a", 1, 1) + "lasts 20-behind*5;");
        Sentence.due("last(0, 1), both last less by it", x.last(0, 1), 0);
    }

    private static void secondRail() {
        Sentence.of(ASKED, "SECOND: COUNT, were there one RAIL more (FREE; 3 at most).");
        String four = "ship a sails 5;" + pairsOf("a", 5, 5, 5, 5);
        Sentence.due("second(), two rails", Told.of(four).second(), 2);
        Sentence.due("second(), three rails", Told.of("rails 2;" + four).second(), 3);
        GoodbyeQuay x = Told.of("rails 2;" + four);
        x.minute();
        Sentence.due("second(), it is free a minute too late", x.second(), 2);
        Sentence.due("second() of nobody", Told.of("rails 2;" + FAR).second(), 0);
    }

    private static void asides() {
        Sentence.of(ASKED, "ASIDE: the one in the QUEUE by whose going to its end COUNT is most; of like ones the first (by numbers).");
        GoodbyeQuay x = Told.of(FAR + pairsOf("far", 1, 2, 3));
        x.change(0, 2);
        Sentence.due("aside(0), of like ones", x.aside(0), 0);
        Sentence.due("aside(1)", x.aside(1), 3);
        x = Told.of("ship a sails 9;ship b sails 5;pair p ship b needs 2;pair q ship a needs 4;pair r ship b needs 3;");
        Sentence.due("aside(0), the one between", x.aside(0), 1);
        Sentence.due("aside(1)", x.aside(1), 3);
        x = Told.of("ship a sails 5;" + pairsOf("a", 5));
        Sentence.due("aside(0) of one alone", x.aside(0), 0);
        Sentence.due("aside(1) of one alone", x.aside(1), 1);
        // Less than now may be the most.
        x = Told.of("ship a sails 1;ship b sails 3;pair p ship a needs 1;pair q ship b needs 2;");
        Sentence.due("count()", x.count(), 2);
        Sentence.due("aside(1), the end's own", x.aside(1), 2);
        Sentence.due("aside(0), the end's own", x.aside(0), 1);
        x = Told.of("ship a sails 1;ship b sails 2;ship c sails 3;pair p ship a needs 1;pair q ship b needs 1;pair r ship c needs 1;");
        Sentence.due("aside(0)", x.aside(0), 2);
        x.giveUp(2);
        x.giveUp(1);
        x.giveUp(0);
        Sentence.due("aside(0) of nobody", x.aside(0), -1);
    }

    private static void oddsOfNoQuarrel() {
        Sentence.of(ASKED, "ODDS: that there is no quarrel in n steppings up, whatever the SEED is.");
        int[][] cases = {{30, 0, 1, 1}, {30, 1, 7, 10}, {30, 2, 49, 100}, {30, 4, 2401, 10000}, {0, 4, 1, 1},
            {100, 0, 1, 1}, {100, 1, 0, 1}, {1, 4, 96059601, 100000000}, {99, 4, 1, 100000000}, {50, 4, 1, 16}};
        for (int draw = 0; draw < 1000; draw += 333) {
            for (int[] row : cases) {
                GoodbyeQuay x = Told.of("draw " + draw + ";quarrels " + row[0] + ";");
                Sentence.due("odds(" + row[1] + ", 0) by " + row[0], x.odds(row[1], 0), row[2]);
                Sentence.due("odds(" + row[1] + ", 1) by " + row[0], x.odds(row[1], 1), row[3]);
            }
        }
    }

    private static void tellingAndUntelling() {
        Sentence.of(SEEN, "SEEN, 30 at most,");
        GoodbyeQuay x = Told.of(FAR + pairsOf("far", 3));
        for (int i = 0; i < 30; i++) {
            Sentence.due("seen " + i, x.seen(60, 1, true), i);
        }
        Sentence.due("a 31st", x.seen(60, 1, true), -1);
        x.untell(7);
        Sentence.due("a 31st, one untold", x.seen(60, 1, true), -1);
        Sentence.due("what is seen", x.about(10), 30);
        Sentence.of(SEEN, "is TOLD at a TIME (0 at first, goes on),");
        x = Told.of(FAR + pairsOf("far", 3));
        Sentence.due("the time at first", x.about(11), 0);
        x.later(4);
        x.seen(0, 1, true);
        Sentence.due("fits(3)", x.fits(3), 30);
        Sentence.due("fits(4)", x.fits(4), 0);
        Sentence.due("the time", x.later(1), 5);
        Sentence.due("fits(5)", x.fits(5), 0);
        Sentence.of(SEEN, "UNTOLD at a later one or the same,");
        x.untell(0);
        Sentence.due("fits(4), untold at 5", x.fits(4), 0);
        Sentence.due("fits(5), untold at 5", x.fits(5), 30);
        x.seen(0, 1, true);
        Sentence.due("fits(5)", x.fits(5), 0);
        x.untell(1);
        Sentence.due("fits(5), told and untold at 5", x.fits(5), 30);
        Sentence.of(SEEN, "As known at k that counts that was TOLD at k or before, not UNTOLD at k or before.");
        x = Told.of(FAR + pairsOf("far", 3));
        x.later(2);
        x.seen(0, 1, true);
        x.later(2);
        x.untell(0);
        int[] fits = {30, 30, 0, 0, 30, 30};
        for (int k = 0; k < fits.length; k++) {
            Sentence.due("fits(" + k + ")", x.fits(k), fits[k]);
        }
        Sentence.due("fits(-1)", x.fits(-1), 30);
        Sentence.due("fits(min)", x.fits(Integer.MIN_VALUE), 30);
        Sentence.due("fits(max)", x.fits(Integer.MAX_VALUE), 30);
    }

    private static int fits(String text, int minutes, int many, boolean is) {
        GoodbyeQuay x = Told.of(text);
        x.seen(minutes, many, is);
        return x.fits(0);
    }

    private static void whatIsSeen() {
        Sentence.of(SEEN, "of the quay as it was told (nothing is done but MINUTES, no quarrels),");
        // p steps up in minute 0, q in minute 3.
        String two = FAR + "quarrels 100;" + pairsOf("far", 3, 4);
        GoodbyeQuay x = Told.of(two);
        x.shorten(0);
        x.giveUp(1);
        x.minute();
        x.seen(3, 2, false);
        x.seen(4, 2, true);
        Sentence.due("fits(0) behind acts", x.fits(0), 30);
        Sentence.of(SEEN, "but for how much the last PAIR needs, which is not known:");
        Sentence.due("fits, nothing seen", Told.of(two).fits(0), 30);
        Sentence.due("the least", Told.of(two).sure(0, 0), 1);
        Sentence.due("the greatest", Told.of(two).sure(1, 0), 30);
        Sentence.of(SEEN, "that behind so many MINUTES (0 .. 60) so many PAIRS at least were in the QUEUE no more, or were not.");
        Sentence.due("none behind 0", fits(two, 0, 0, true), 30);
        Sentence.due("one behind 0", fits(two, 0, 1, true), 0);
        Sentence.due("not one behind 0", fits(two, 0, 1, false), 30);
        Sentence.due("not none behind 0", fits(two, 0, 0, false), 0);
        Sentence.due("one behind 1", fits(two, 1, 1, true), 30);
        Sentence.due("two behind 3", fits(two, 3, 2, true), 0);
        Sentence.due("two behind 4", fits(two, 4, 2, true), 30);
        Sentence.due("one at least behind 4", fits(two, 4, 1, true), 30);
        Sentence.due("three behind 60", fits(two, 60, 3, true), 0);
        Sentence.due("not three behind 60", fits(two, 60, 3, false), 30);
        String sixty = FAR + pairsOf("far", 1, 1) + "lasts ";
        Sentence.due("the second one steps up in minute 59", fits(sixty + "59;", 60, 2, true), 30);
        Sentence.due("the second one steps up in minute 60", fits(sixty + "60;", 60, 2, true), 0);
        String seven = FAR + pairsOf("far", 1, 1, 1, 1, 1, 1, 1);
        Sentence.due("seven behind 6", fits(seven, 6, 7, true), 0);
        Sentence.due("seven behind 7", fits(seven, 7, 7, true), 30);
    }

    private static void fitsAndAsks() {
        String two = FAR + pairsOf("far", 3, 4);
        Sentence.of(SEEN, "FITS: so much (1 .. 30) by which all that counts is so.");
        GoodbyeQuay x = Told.of(two);
        x.seen(4, 2, true);
        Sentence.due("fits(0), one is so", x.fits(0), 30);
        x.seen(3, 2, true);
        Sentence.due("fits(0), one is not", x.fits(0), 0);
        x.untell(1);
        Sentence.due("fits(0), it counts no more", x.fits(0), 30);
        Sentence.due("sure(0, 0)", x.sure(0, 0), 1);
        Sentence.due("sure(1, 0)", x.sure(1, 0), 30);
        Sentence.of(SEEN, "ASK: the number of MINUTES (0 .. 60) behind which to know how many were in the QUEUE would leave the fewest of these at the most; of like ones the least.");
        Sentence.due("ask(0, 0)", x.ask(0, 0), 0);
        Sentence.due("ask(1, 0)", x.ask(1, 0), 30);
        Sentence.of(SEEN, "The constants: `NONE = -1`: There is none.");
        Sentence.due("NONE", GoodbyeQuay.NONE, -1);
    }
}
