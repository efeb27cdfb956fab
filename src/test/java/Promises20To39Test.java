import java.io.IOException;

/** The promises 20 to 39, sentence by sentence: what will be, what would be better, who holds up whom. */
public final class Promises20To39Test {
    private static final int MAX = Integer.MAX_VALUE;
    private static final int MIN = Integer.MIN_VALUE;

    /** One rail: p 0 to 5, q missed, r 5 to 10 when its ship sails. */
    private static final String THREE = "ship a sails 10 waits 5;ship b sails 4;"
            + "pair p ship a needs 5;pair q ship b needs 3 love 4;pair r ship a needs 6 love 2;";

    public static void main(String[] args) throws IOException {
        will();
        says();
        steps();
        missing();
        empty();
        countAndLove();
        order();
        dearest();
        shortest();
        spare();
        hold();
        swap();
        wish();
        trade();
        delay();
        grudge();
        blame();
        room();
        lets();
        Sentence.finish(20, 39);
    }

    private static void lie(GoodbyeQuay x, int... want) {
        for (int i = 0; i < want.length; i++) {
            Sentence.due("lies(" + i + ")", x.lies(i), want[i]);
        }
        Sentence.due("lies(" + want.length + ")", x.lies(want.length), -2);
    }

    private static void will() {
        Sentence.of(20, "How a PAIR is (as in pair(), what 3) behind n MINUTES (0 .. 400; as many as there are till the quay is EMPTY);");
        GoodbyeQuay x = Told.of(THREE + "pair s ship a needs 1;");
        x.giveUp(3);
        Sentence.each("will(0, n, 0)", n -> x.will(0, n, 0), 0, 0);
        Sentence.each("will(0, n, 0)", n -> x.will(0, n, 0), 1, 1, 4);
        Sentence.each("will(0, n, 0)", n -> x.will(0, n, 0), 2, 5, 6, 399, 400);
        Sentence.each("will(1, n, 0)", n -> x.will(1, n, 0), 0, 0, 5);
        Sentence.each("will(1, n, 0)", n -> x.will(1, n, 0), 3, 6, 400);
        Sentence.each("will(2, n, 0)", n -> x.will(2, n, 0), 0, 5);
        Sentence.each("will(2, n, 0)", n -> x.will(2, n, 0), 1, 6, 9);
        Sentence.each("will(2, n, 0), cut off", n -> x.will(2, n, 0), 3, 10, 11, 400);
        Sentence.each("will(3, n, 0), given up", n -> x.will(3, n, 0), 4, 0, 400);
        Told.minutes(x, 6);
        Sentence.each("will(0, n, 0), it has said it", n -> x.will(0, n, 0), 2, 0, 1, 400);
        Sentence.each("will(1, n, 0), it missed it", n -> x.will(1, n, 0), 3, 0, 400);
        Sentence.each("will(2, n, 0), at a rail", n -> x.will(2, n, 0), 1, 0, 3);

        Sentence.of(20, "quarrels as the SEED tells (what 1), none (0);");
        // 44 becomes 99, 99 becomes 634: the first one does not quarrel by 99, the second does.
        GoodbyeQuay y = Told.of("ship a sails 30;quarrels 99;draw 44;pair p ship a needs 2;pair q ship a needs 2;");
        Sentence.due("will(0, 2, 1)", y.will(0, 2, 1), 2);
        Sentence.due("will(1, 6, 1)", y.will(1, 6, 1), 1);
        Sentence.due("will(1, 7, 1)", y.will(1, 7, 1), 2);
        Sentence.due("will(1, 4, 0)", y.will(1, 4, 0), 2);
        y.minute();
        y.minute();
        Sentence.due("will(1, 4, 1), by the seed that is now", y.will(1, 4, 1), 1);
        Sentence.due("will(1, 5, 1), by the seed that is now", y.will(1, 5, 1), 2);

        // 17 becomes 400, whose rest is 0.
        Sentence.due("will(0, 2, 1), quarrels 1", Told.of("ship a sails 30;quarrels 1;draw 17;pair p ship a needs 2;").will(0, 2, 1), 1);
        Sentence.due("will(0, 2, 1), quarrels 0", Told.of("ship a sails 30;draw 17;pair p ship a needs 2;").will(0, 2, 1), 2);
        // Who misses it in the queue takes no draw, be it just as its ship sails: 9 becomes 304, then 719.
        GoodbyeQuay z = Told.of("ship a sails 4;ship b sails 40;pair p ship b needs 1;pair q ship a needs 1;pair r ship b needs 1;"
                + "quarrels 20;draw 9;");
        Sentence.due("will(1, 5, 1)", z.will(1, 5, 1), 3);
        Sentence.due("will(2, 7, 1)", z.will(2, 7, 1), 1);
        Sentence.due("will(2, 8, 1)", z.will(2, 8, 1), 2);

        Sentence.of(20, "NONE if one can't be.");
        Sentence.each("will(n, 1, 0)", n -> y.will(n, 1, 0), -1, 2, 7, -1, MAX, MIN);
        Sentence.each("will(0, n, 0)", n -> y.will(0, n, 0), -1, 401, -1, MAX, MIN);
        Sentence.each("will(0, n, 1)", n -> y.will(0, n, 1), -1, 401, -1, MAX, MIN);
        Sentence.each("will(0, 1, n)", n -> y.will(0, 1, n), -1, 2, -1, MAX, MIN);
    }

    private static void says() {
        Sentence.of(21, "Behind how many MINUTES a PAIR will have SAID it (0: it has);");
        GoodbyeQuay x = Told.of("ship a sails 9;pair p ship a needs 4;pair q ship a needs 5;pair r ship a needs 1;pair s ship a needs 1;");
        x.giveUp(3);
        Sentence.row("says", x::says, 4, 9, -1, -1);
        x.minute();
        Sentence.row("says at 1", x::says, 3, 8, -1, -1);
        Told.minutes(x, 3);
        Sentence.row("says at 4", x::says, 0, 5, -1, -1);
        Told.minutes(x, 6);
        Sentence.row("says at the end", x::says, 0, 0, -1, -1);
        Sentence.of(21, "NONE if it will not, or there is none such.");
        Sentence.each("says", x::says, -1, 2, 3, 4, 7, -1, MAX, MIN);
    }

    private static void steps() {
        Sentence.of(22, "How many MINUTES go by ahead of that in which a PAIR steps up;");
        GoodbyeQuay x = Told.of(THREE);
        Sentence.row("steps", x::steps, 0, -1, 5);
        x.minute();
        Sentence.row("steps at 1", x::steps, -1, -1, 4);
        GoodbyeQuay two = Told.of("rails 2;ship a sails 20;pair p ship a needs 4;pair q ship a needs 2;pair r ship a needs 3;"
                + "pair s ship a needs 9;");
        Sentence.row("steps, two rails", two::steps, 0, 0, 2, 4);
        GoodbyeQuay late = Told.of("ship a sails 5;ship b sails 9;pair p ship b needs 4;pair q ship a needs 7;");
        Sentence.due("steps(1), a minute ahead of sailing", late.steps(1), 4);
        late = Told.of("ship a sails 4;ship b sails 9;pair p ship b needs 4;pair q ship a needs 7;");
        Sentence.due("steps(1), its ship sails just then", late.steps(1), -1);
        GoodbyeQuay fresh = Told.of(THREE);
        fresh.giveUp(0);
        Sentence.due("steps(2), asked at once behind an act", fresh.steps(2), 3);
        Sentence.of(22, "NONE if it will not, it is not in the QUEUE, or there is none such.");
        GoodbyeQuay waits = Told.of("ship a sails 20;ship b sails 4 waits 9;pair p ship a needs 5;pair q ship b needs 3;");
        waits.await(1);
        Sentence.due("steps(1), its ship waits", waits.steps(1), 5);
        waits.undo();
        Sentence.due("steps(1), its ship does not", waits.steps(1), -1);
        x.giveUp(2);
        Sentence.row("steps, at a rail, too late, given up", x::steps, -1, -1, -1);
        Told.minutes(x, 5);
        Sentence.row("steps, said, missed, given up", x::steps, -1, -1, -1);
        Sentence.each("steps", x::steps, -1, 3, 7, -1, MAX, MIN);
    }

    private static void missing() {
        Sentence.of(23, "PAIRS that will have MISSED it, as bits.");
        GoodbyeQuay x = Told.of(THREE);
        Sentence.due("missing(), in the queue and cut off", x.missing(), 6);
        Told.minutes(x, 6);
        Sentence.due("missing(), one has", x.missing(), 6);
        x = Told.of(THREE);
        x.giveUp(2);
        Sentence.due("missing(), not one that gave up", x.missing(), 2);
        Sentence.due("missing(), none", Told.of("ship a sails 9;pair p ship a needs 9;").missing(), 0);
        x = Told.of("ship a sails 0;pair p ship a needs 9;pair q ship a needs 1;pair r ship a needs 1;pair s ship a needs 1;"
                + "pair t ship a needs 1;pair u ship a needs 1;pair v ship a needs 1;");
        Sentence.due("missing(), all seven", x.missing(), 127);
    }

    private static void empty() {
        Sentence.of(24, "Behind how many MINUTES the quay is EMPTY.");
        Sentence.due("empty() without pairs", Told.of("ship a sails 9;").empty(), 0);
        Sentence.due("empty(), one of 1 minute", Told.of("ship a sails 9;pair p ship a needs 1;").empty(), 1);
        Sentence.due("empty(), one whose ship is gone", Told.of("ship a sails 0;pair p ship a needs 1;").empty(), 1);
        Sentence.due("empty(), cut off", Told.of("ship a sails 4;pair p ship a needs 9;").empty(), 4);
        GoodbyeQuay x = Told.of("ship a sails 4;pair p ship a needs 9;pair q ship a needs 9;");
        Sentence.due("empty(), one cut off, then one misses it", x.empty(), 5);
        x.minute();
        Sentence.due("empty() at 1", x.empty(), 4);
        Told.minutes(x, 4);
        Sentence.due("empty() at the end", x.empty(), 0);
        // A last one that misses it does so while another is still at a rail.
        x = Told.of("rails 2;ship a sails 9;ship b sails 1;pair p ship a needs 8;pair q ship a needs 2;pair r ship b needs 1;");
        Sentence.due("empty(), two rails", x.empty(), 8);
        // At the rail that is free first it misses it; the other one goes on.
        x = Told.of("rails 2;ship a sails 9;ship b sails 1;pair p ship a needs 2;pair q ship a needs 2;pair r ship b needs 1;");
        Sentence.due("empty(), both free at once", x.empty(), 3);
        StringBuilder longest = new StringBuilder("ship a sails 240 waits 60;lasts 60;");
        for (char c = 'a'; c < 'h'; c++) {
            longest.append("pair ").append(c).append(" ship a needs 1;");
        }
        x = Told.of(longest.toString());
        x.await(0);
        Sentence.due("empty(), the longest", x.empty(), 301);
    }

    private static void countAndLove() {
        Sentence.of(25, "COUNT.");
        GoodbyeQuay x = Told.of(THREE);
        Sentence.due("count()", x.count(), 1);
        Told.minutes(x, 10);
        Sentence.due("count(), it has said it", x.count(), 1);
        Sentence.due("count(), none", Told.of("ship a sails 0;pair p ship a needs 1;").count(), 0);
        Sentence.of(26, "LOVE.");
        x = Told.of(THREE);
        x.giveUp(0);
        Sentence.due("love(), asked at once behind an act", x.love(), 6);
        x = Told.of(THREE);
        Sentence.due("love()", x.love(), 1);
        x.change(0, 1);
        Sentence.due("love()", x.love(), 5);
        Told.minutes(x, 10);
        Sentence.due("love(), they have said it", x.love(), 5);
        Sentence.due("love(), none", Told.of("ship a sails 0;pair p ship a needs 1 love 20;").love(), 0);
    }

    private static void order() {
        Sentence.of(27, "ORDER: COUNT then. PAIRS lie there then, in order.");
        GoodbyeQuay x = Told.of(THREE);
        Sentence.due("order()", x.order(), 2);
        lie(x, 1, 0, 2);
        Sentence.row("queue, nothing is done", x::queue, 0, 1, 2);
        x.giveUp(0);
        lie(x, 1, 0, 2);
        Sentence.due("order(), one gave up", x.order(), 2);
        lie(x, 1, 2);
        x.giveUp(1);
        x.minute();
        Sentence.due("order(), one at a rail, nobody in the queue", x.order(), 1);
        lie(x);
        GoodbyeQuay seven = Told.of("ship a sails 1;ship b sails 2;ship c sails 3;ship d sails 4;ship e sails 7;"
                + "pair a ship e needs 1;pair b ship e needs 1;pair c ship e needs 1;pair d ship d needs 1;"
                + "pair e ship c needs 1;pair f ship b needs 1;pair g ship a needs 1;");
        Sentence.due("order() of seven", seven.order(), 7);
        lie(seven, 6, 5, 4, 3, 0, 1, 2);
        GoodbyeQuay two = Told.of("rails 2;ship a sails 5;ship b sails 2;pair p ship a needs 5;pair q ship a needs 3;pair r ship b needs 2;");
        Sentence.due("order(), two rails", two.order(), 3);
        lie(two, 0, 2, 1);
        // p can't say it, but only where it holds no rail do the others: both rails must be taken ahead of it.
        two = Told.of("rails 2;ship b sails 4;ship c sails 13;pair p ship b needs 8;pair q ship c needs 5;pair r ship c needs 7;"
                + "pair s ship c needs 6;pair t ship c needs 6;");
        Sentence.due("order(), two rails, one in the way", two.order(), 4);
        lie(two, 1, 2, 0, 3, 4);
        String byBehind = "pair p ship a needs 1;pair q ship a needs 1;lasts 5+behind*5;";
        Sentence.due("order(), 10 minutes and 5", Told.of("ship a sails 15;" + byBehind).order(), 2);
        Sentence.due("order(), 10 minutes and 5, a minute too long", Told.of("ship a sails 14;" + byBehind).order(), 1);
    }

    private static void dearest() {
        Sentence.of(28, "DEAREST: LOVE then. PAIRS lie there then, in order.");
        GoodbyeQuay x = Told.of(THREE);
        Sentence.due("dearest()", x.dearest(), 6);
        lie(x, 1, 2, 0);
        Sentence.row("queue, nothing is done", x::queue, 0, 1, 2);
        x.order();
        lie(x, 1, 0, 2);
        x.dearest();
        lie(x, 1, 2, 0);
        Told.minutes(x, 5);
        Sentence.due("dearest(), one has said it", x.dearest(), 1);
        lie(x, 1, 2);
        Told.minutes(x, 5);
        Sentence.due("dearest(), nobody in the queue", x.dearest(), 1);
        lie(x);
        x = Told.of(THREE);
        x.giveUp(0);
        Sentence.due("dearest(), asked at once behind an act", x.dearest(), 6);
        lie(x, 1, 2);
        StringBuilder most = new StringBuilder("ship a sails 240;");
        for (char c = 'a'; c < 'h'; c++) {
            most.append("pair ").append(c).append(" ship a needs 1 love 20;");
        }
        Sentence.due("dearest(), the most love", Told.of(most.toString()).dearest(), 140);
    }

    private static void shortest() {
        Sentence.of(29, "SHORTEN what 0: how many, 1: who, as bits;");
        GoodbyeQuay x = Told.of(THREE);
        Sentence.row("shortest", x::shortest, 2, 3);
        Sentence.row("nobody agreed", n -> x.pair(n, 5), 0, 0, 0);
        x.shorten(0);
        x.shorten(1);
        Sentence.row("shortest, none more", x::shortest, 0, 0);
        Sentence.of(29, "NONE if by none, or for another what.");
        Sentence.each("shortest", x::shortest, -1, 2, 3, -1, MAX, MIN);
        GoodbyeQuay none = Told.of("ship a sails 3;pair p ship a needs 8;");
        Sentence.row("shortest, by none", none::shortest, -1, -1, -1);
    }

    private static void spare() {
        Sentence.of(30, "SPARE what 0: how many, 1: who, as bits;");
        GoodbyeQuay x = Told.of(THREE);
        Sentence.row("spare", x::spare, 1, 1);
        Sentence.row("nobody gave up", n -> x.pair(n, 3), 0, 0, 0);
        x.giveUp(0);
        Sentence.row("spare, none more", x::spare, 0, 0);
        Sentence.of(30, "NONE if by none, or for another what.");
        Sentence.each("spare", x::spare, -1, 2, 3, -1, MAX, MIN);
        GoodbyeQuay none = Told.of("ship a sails 3;pair p ship a needs 8;pair q ship a needs 1;");
        Sentence.row("spare, the first one", none::spare, 1, 1);
        none.minute();
        Sentence.row("spare, by none: it is at a rail", none::spare, -1, -1, -1);
    }

    private static void hold() {
        Sentence.of(31, "HOLD;");
        GoodbyeQuay x = Told.of(THREE + "ship c sails 0;ship d sails 1;");
        Sentence.due("hold(0)", x.hold(0), 1);
        Sentence.due("hold(1)", x.hold(1), 4);
        Sentence.due("hold(3), no pairs", x.hold(3), 0);
        Sentence.due("ship(0, 0), nothing is done", x.ship(0, 0), 10);
        Sentence.of(31, "NONE if by none, it is GONE, or there is none such.");
        Sentence.due("hold(2), gone, though without pairs", x.hold(2), -1);
        Sentence.each("hold", x::hold, -1, 4, 5, -1, MAX, MIN);
        x.minute();
        Sentence.due("hold(3), gone now", x.hold(3), -1);
        Sentence.due("hold(0), by none", Told.of("ship a sails 59;lasts 60;pair p ship a needs 1;pair q ship a needs 1;"
                + "pair r ship a needs 1;pair s ship a needs 1;pair t ship a needs 1;").hold(0), -1);
    }

    private static void swap() {
        Sentence.of(32, "CHANGE what 0: the first one, 1: the other one, 2: COUNT then;");
        GoodbyeQuay x = Told.of(THREE);
        Sentence.row("swap", x::swap, 0, 1, 2);
        Sentence.row("queue, nothing is done", x::queue, 0, 1, 2);
        Sentence.of(32, "NONE if there are none, or for another what.");
        Sentence.each("swap", x::swap, -1, 3, 4, -1, MAX, MIN);
        x.change(0, 1);
        Sentence.row("swap, none is better", x::swap, -1, -1, -1, -1);
        x.giveUp(0);
        x.giveUp(1);
        Sentence.row("swap, one in the queue", x::swap, -1, -1, -1);
        x.giveUp(2);
        Sentence.row("swap, nobody in the queue", x::swap, -1, -1, -1);
    }

    private static void wish() {
        Sentence.of(33, "WISH (among all places);");
        GoodbyeQuay x = Told.of(THREE);
        Sentence.row("wish", x::wish, 0, 0, 0);
        GoodbyeQuay two = Told.of("rails 2;ship a sails 20;pair p ship a needs 5;pair q ship a needs 5;pair r ship a needs 5;");
        Sentence.row("wish, two rails", two::wish, 1, 1, 1);
        GoodbyeQuay just = Told.of("ship a sails 3;ship b sails 20;pair p ship b needs 5;pair q ship a needs 3;");
        Sentence.due("wish(1), just in time", just.wish(1), 0);
        Sentence.of(33, "NONE if it is not in the QUEUE, or there is none such.");
        Sentence.each("wish", x::wish, -1, 3, 7, -1, MAX, MIN);
        x.giveUp(2);
        x.minute();
        Sentence.row("wish, at a rail, none will do, given up", x::wish, -1, 0, -1);
        Told.minutes(x, 5);
        Sentence.row("wish, said, missed, given up", x::wish, -1, -1, -1);
    }

    private static void trade() {
        Sentence.of(34, "TRADE: how many rounds of more than one there were. Who has each place lies there then.");
        GoodbyeQuay x = Told.of(THREE);
        Sentence.due("trade(), rounds of one", x.trade(), 0);
        lie(x, 0, 1, 2);
        x = Told.of("ship a sails 200;lasts needs*behind;pair p ship a needs 30;pair q ship a needs 2;");
        Sentence.due("trade(), a round of two", x.trade(), 1);
        lie(x, 1, 0);
        Sentence.due("queue(0), nothing is done", x.queue(0), 0);
        x.giveUp(0);
        Sentence.due("trade() of one", x.trade(), 0);
        lie(x, 1);
        x.giveUp(1);
        Sentence.due("trade() of nobody", x.trade(), 0);
        lie(x);
        // Two rails, and the first place is the worst: it goes out last, alone.
        x = Told.of("ship a sails 200;lasts needs*behind;pair p ship a needs 30;pair q ship a needs 2;");
        x.trade();
        Told.feed(x, "rails 2;ship a sails 200;lasts behind*20+1;pair p ship a needs 1;pair q ship a needs 1;pair r ship a needs 1;");
        x.quay();
        Sentence.row("wish", x::wish, 1, 1, 1);
        Sentence.due("trade(), rounds of one", x.trade(), 0);
        lie(x, 0, 1, 2);
        // Each is quick at one place alone: p at 1, q at 2, r at 0.
        x = Told.of("rails 2;ship a sails 99;pair p ship a needs 2 love 1;pair q ship a needs 9 love 0;"
                + "pair r ship a needs 2 love 2;lasts needs*(not behind=love)+1;");
        Sentence.due("trade(), a round of three", x.trade(), 1);
        lie(x, 2, 0, 1);
    }

    private static void delay() {
        Sentence.of(35, "DELAY;");
        GoodbyeQuay x = Told.of(THREE);
        Sentence.due("delay(1, 0)", x.delay(1, 0), 60);
        Sentence.due("delay(2, 0)", x.delay(2, 0), 60);
        Sentence.due("delay(2, 1), nor without it", x.delay(2, 1), 0);
        Sentence.due("delay(0, 2)", x.delay(0, 2), 0);
        x.await(0);
        Sentence.due("delay(2, 0)", x.delay(2, 0), 2);
        Sentence.due("delay(2, 1)", x.delay(2, 1), 0);
        Sentence.of(35, "NONE if both are one, the other one is not in the QUEUE, or one can't be.");
        Sentence.each("delay(n, n)", n -> x.delay(n, n), -1, 0, 1, 2, 3, -1, MAX, MIN);
        Sentence.each("delay(n, 0)", n -> x.delay(n, 0), -1, 3, 7, -1, MAX, MIN);
        Sentence.each("delay(0, n)", n -> x.delay(0, n), -1, 3, 7, -1, MAX, MIN);
        x.giveUp(1);
        x.minute();
        Sentence.due("delay(2, 0), at a rail", x.delay(2, 0), -1);
        Sentence.due("delay(2, 1), given up", x.delay(2, 1), -1);
        Sentence.due("delay(0, 2), one at a rail", x.delay(0, 2), 0);
        Sentence.due("delay(1, 2), one that gave up", x.delay(1, 2), 0);
    }

    private static void grudge() {
        Sentence.of(36, "Who in the QUEUE, were it not there, would have a PAIR SAY it that does not, as bits;");
        GoodbyeQuay x = Told.of(THREE);
        Sentence.due("grudge(1)", x.grudge(1), 1);
        Sentence.due("grudge(2)", x.grudge(2), 1);
        GoodbyeQuay y = Told.of("ship a sails 9;pair p ship a needs 2;pair q ship a needs 4;pair r ship a needs 5;pair s ship a needs 9;");
        Sentence.due("grudge(2), each of two", y.grudge(2), 3);
        Sentence.due("grudge(3), no one alone", y.grudge(3), 0);
        Sentence.due("grudge(0), nobody", Told.of("ship a sails 0;pair p ship a needs 2;").grudge(0), 0);
        Sentence.of(36, "NONE if it SAYS it, is not in the QUEUE, or there is none such.");
        Sentence.due("grudge(0), it says it", x.grudge(0), -1);
        GoodbyeQuay fresh = Told.of(THREE);
        fresh.giveUp(0);
        Sentence.due("grudge(1), asked at once behind an act by which it says it", fresh.grudge(1), -1);
        Sentence.each("grudge", x::grudge, -1, 3, 7, -1, MAX, MIN);
        x.giveUp(2);
        Sentence.due("grudge(2), it gave up", x.grudge(2), -1);
        y.minute();
        Sentence.due("grudge(0), at a rail", y.grudge(0), -1);
        Sentence.due("grudge(2), one at a rail is not in the queue", y.grudge(2), 2);
        Told.minutes(x, 6);
        Sentence.due("grudge(1), it missed it", x.grudge(1), -1);
    }

    private static void blame() {
        Sentence.of(37, "BLAME the upper part (0), the lower part (1), in lowest terms (0 of 1);");
        GoodbyeQuay x = Told.of(THREE);
        Sentence.row("blame(0, n), 0 of 1", n -> x.blame(0, n), 0, 1);
        Sentence.row("blame(1, n), 3 of 6", n -> x.blame(1, n), 1, 2);
        Sentence.row("blame(2, n), 3 of 6", n -> x.blame(2, n), 1, 2);
        GoodbyeQuay y = Told.of("ship a sails 5;pair p ship a needs 6;pair q ship a needs 3;");
        Sentence.row("blame(0, n), below 0", n -> y.blame(0, n), -1, 2);
        Sentence.of(37, "-1000 if it is not in the QUEUE, or one can't be.");
        Sentence.each("blame(n, 0)", n -> x.blame(n, 0), -1000, 3, 7, -1, MAX, MIN);
        Sentence.each("blame(n, 1)", n -> x.blame(n, 1), -1000, 3, 7, -1, MAX, MIN);
        Sentence.each("blame(0, n)", n -> x.blame(0, n), -1000, 2, 3, -1, MAX, MIN);
        x.giveUp(2);
        x.minute();
        Sentence.each("blame(n, 1), at a rail, given up", n -> x.blame(n, 1), -1000, 0, 2);
        Told.minutes(x, 5);
        Sentence.each("blame(n, 1), said, missed", n -> x.blame(n, 1), -1000, 0, 1);
    }

    private static void room() {
        Sentence.of(38, "ROOM; 60 if nobody SAYS it.");
        GoodbyeQuay x = Told.of(THREE);
        Sentence.due("room()", x.room(), 5);
        x.await(0);
        Sentence.due("room(), another one says it, too", x.room(), 4);
        Sentence.due("room(), nobody says it", Told.of("ship a sails 4;pair p ship a needs 5;").room(), 60);
        Sentence.due("room(), nobody is there", Told.of("ship a sails 4;").room(), 60);
        x = Told.of("ship a sails 4;pair p ship a needs 1;");
        x.minute();
        Sentence.due("room(), the only one has said it", x.room(), 60);
        Sentence.due("room(), 0", Told.of("ship a sails 5;pair p ship a needs 5;").room(), 0);
    }

    private static void lets() {
        Sentence.of(39, "Who will have SAID it, should somebody without a ticket so hold the RAILS for n minutes (0 .. 60; as ROOM tells), as bits;");
        GoodbyeQuay x = Told.of(THREE + "ship c sails 61;pair s ship c needs 1;");
        Sentence.each("lets", x::lets, 9, 0, 5);
        Sentence.each("lets, p is too late", x::lets, 8, 6, 59, 60);
        GoodbyeQuay y = Told.of("ship c sails 60;pair s ship c needs 1;");
        Sentence.due("lets(59)", y.lets(59), 1);
        Sentence.due("lets(60)", y.lets(60), 0);
        y.minute();
        Sentence.due("lets(60), it has said it", y.lets(60), 1);
        Sentence.of(39, "NONE for another n.");
        Sentence.each("lets", x::lets, -1, 61, 62, -1, MAX, MIN);
    }
}
