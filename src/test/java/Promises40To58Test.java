import java.io.IOException;

/** The promises 40 to 58, sentence by sentence: what would be, what is seen, images, what there is. */
public final class Promises40To58Test {
    private static final int MAX = Integer.MAX_VALUE;
    private static final int MIN = Integer.MIN_VALUE;

    /** One rail: p 0 to 5, q missed, r 5 to 10 when its ship sails. */
    private static final String THREE = "ship a sails 10 waits 5;ship b sails 4;"
            + "pair p ship a needs 5;pair q ship b needs 3 love 4;pair r ship a needs 6 love 2;";

    public static void main(String[] args) throws IOException {
        last();
        second();
        aside();
        soonest();
        fondest();
        waves();
        litter();
        law();
        odds();
        lies();
        seen();
        untell();
        later();
        fits();
        sure();
        ask();
        image();
        back();
        about();
        aboutEdges();
        Sentence.finish(40, 58);
    }

    private static void last() {
        Sentence.of(40, "LAST (needs 1 .. 30);");
        GoodbyeQuay x = Told.of("ship a sails 40;ship b sails 0;custom 60;pair p ship a needs 4;");
        Sentence.due("last(0, 1)", x.last(0, 1), 39);
        Sentence.due("last(0, 30)", x.last(0, 30), 10);
        Sentence.due("queue(1), nothing is done", x.queue(1), -1);
        Sentence.of(40, "NONE if at none, or one can't be.");
        Sentence.due("last(1, 1), gone", x.last(1, 1), -1);
        Sentence.each("last(0, n)", n -> x.last(0, n), -1, 0, 31, -1, MAX, MIN);
        Sentence.each("last(n, 1)", n -> x.last(n, 1), -1, 2, 5, -1, MAX, MIN);
        GoodbyeQuay y = Told.of("ship a sails 10;pair p ship a needs 8;");
        Sentence.due("last(0, 2), just in time", y.last(0, 2), 8);
        Sentence.due("last(0, 3), at none", y.last(0, 3), -1);
    }

    private static void second() {
        Sentence.of(41, "SECOND.");
        GoodbyeQuay x = Told.of(THREE);
        Sentence.due("second()", x.second(), 3);
        Sentence.due("rails, nothing is done", x.about(3), 1);
        Told.minutes(x, 3);
        Sentence.due("second() at 3, too late for q", x.second(), 2);
        Told.minutes(x, 7);
        Sentence.due("second() at the end", x.second(), 1);
        x = Told.of("rails 2;ship a sails 4;pair p ship a needs 4;pair q ship a needs 4;pair r ship a needs 4;pair s ship a needs 4;");
        Sentence.due("second() by a third rail", x.second(), 3);
    }

    private static void aside() {
        Sentence.of(42, "ASIDE what 0: who, 1: COUNT then;");
        GoodbyeQuay x = Told.of(THREE);
        Sentence.row("aside", x::aside, 0, 2);
        Sentence.row("queue, nothing is done", x::queue, 0, 1, 2);
        GoodbyeQuay none = Told.of("ship a sails 0;pair p ship a needs 1;pair q ship a needs 1;");
        none.change(0, 1);
        Sentence.row("aside, nobody says it", none::aside, 0, 0);
        Sentence.of(42, "NONE if nobody is in the QUEUE, or for another what.");
        Sentence.each("aside", x::aside, -1, 2, 3, -1, MAX, MIN);
        GoodbyeQuay y = Told.of("ship a sails 9;pair p ship a needs 2;");
        y.minute();
        Sentence.row("aside, one at a rail alone", y::aside, -1, -1, -1);
        y.minute();
        Sentence.row("aside, an empty quay", y::aside, -1, -1);
    }

    private static void soonest() {
        Sentence.of(43, "The SHIP that sails next (not GONE); of like ones the first;");
        GoodbyeQuay x = Told.of("ship a sails 9;ship b sails 0;ship c sails 2 waits 7;ship d sails 2 waits 6;ship e sails 240;"
                + "pair p ship e needs 9;");
        Sentence.due("soonest(), of like ones", x.soonest(), 2);
        x.await(2);
        Sentence.due("soonest(), one waits", x.soonest(), 3);
        x.await(3);
        Sentence.due("soonest(), two wait", x.soonest(), 3);
        Told.minutes(x, 8);
        Sentence.due("soonest(), gone at 8; of like ones", x.soonest(), 0);
        Sentence.of(43, "NONE if all are GONE.");
        Sentence.due("soonest() without ships", Told.of("").soonest(), -1);
        Sentence.due("soonest(), sails 0", Told.of("ship a sails 0 waits 60;").soonest(), -1);
        GoodbyeQuay y = Told.of("ship a sails 1;pair p ship a needs 1;");
        Sentence.due("soonest() at 0", y.soonest(), 0);
        y.minute();
        Sentence.due("soonest() at 1", y.soonest(), -1);
    }

    private static void fondest() {
        Sentence.of(44, "The one in the QUEUE with most love; of like ones that farther ahead;");
        GoodbyeQuay x = Told.of("ship a sails 9;pair p ship a needs 3 love 0;pair q ship a needs 3 love 20;pair r ship a needs 3 love 20;");
        Sentence.due("fondest()", x.fondest(), 1);
        x.change(1, 2);
        Sentence.due("fondest(), places changed", x.fondest(), 2);
        x.giveUp(2);
        Sentence.due("fondest(), one gave up", x.fondest(), 1);
        x.giveUp(1);
        Sentence.due("fondest(), without love", x.fondest(), 0);
        Sentence.of(44, "NONE if nobody is.");
        x.minute();
        Sentence.due("fondest(), one at a rail alone", x.fondest(), -1);
        Sentence.due("fondest() without pairs", Told.of("ship a sails 9;").fondest(), -1);
    }

    private static void waves() {
        Sentence.of(45, "How many WAVES are left over.");
        GoodbyeQuay x = Told.of(THREE);
        int[] waves = {0, 0, 0, 0, 0, 0, 1, 1, 1, 1, 2};
        for (int i = 0; i < waves.length; i++) {
            Sentence.due("waves() at " + i, x.waves(), waves[i]);
            x.minute();
        }
        Sentence.due("waves() on an empty quay", x.waves(), 2);
        x.undo();
        Sentence.due("waves(), undone", x.waves(), 1);
        x = Told.of("ship a sails 9;pair p ship a needs 3;");
        x.giveUp(0);
        Sentence.due("waves() of one that gave up", x.waves(), 0);
    }

    private static void litter() {
        Sentence.of(46, "How many WAVES will be left over when the quay is EMPTY.");
        GoodbyeQuay x = Told.of(THREE);
        Sentence.due("litter()", x.litter(), 2);
        Told.minutes(x, 6);
        Sentence.due("litter(), one is there already", x.litter(), 2);
        Told.minutes(x, 4);
        Sentence.due("litter() on an empty quay", x.litter(), 2);
        Sentence.due("litter(), none", Told.of("ship a sails 9;pair p ship a needs 9;").litter(), 0);
        x = Told.of("ship a sails 0;pair p ship a needs 9;pair q ship a needs 1;pair r ship a needs 1;pair s ship a needs 1;"
                + "pair t ship a needs 1;pair u ship a needs 1;pair v ship a needs 1;");
        Sentence.due("litter(), all seven", x.litter(), 7);
        x.giveUp(6);
        Sentence.due("litter(), one gave up", x.litter(), 6);
    }

    private static void law() {
        Sentence.of(47, "COUNT, if custom told n (1 .. 60);");
        GoodbyeQuay x = Told.of("ship a sails 60;pair p ship a needs 30;pair q ship a needs 30;pair r ship a needs 30;");
        Sentence.due("law(1)", x.law(1), 3);
        Sentence.due("law(20)", x.law(20), 3);
        Sentence.due("law(21)", x.law(21), 2);
        Sentence.due("law(60)", x.law(60), 2);
        Sentence.due("custom, nothing is done", x.about(15), 11);
        GoodbyeQuay y = Told.of("ship a sails 60;lasts custom;pair p ship a needs 1;pair q ship a needs 1;");
        Sentence.due("law(30) by lasts", y.law(30), 2);
        Sentence.due("law(31) by lasts", y.law(31), 1);
        Sentence.due("law(60) by lasts", y.law(60), 1);
        y.minute();
        Sentence.due("law(1), one is at a rail already", y.law(1), 2);
        GoodbyeQuay fresh = Told.of(THREE);
        fresh.giveUp(0);
        Sentence.due("law(11), asked at once behind an act", fresh.law(11), 2);
        Sentence.of(47, "NONE for another n.");
        Sentence.each("law", x::law, -1, 0, 61, -1, MAX, MIN);
    }

    private static void odds() {
        Sentence.of(48, "ODDS (n 0 .. 4) the upper part (0), the lower part (1), in lowest terms (0 of 1);");
        int[][] cases = {{60, 0, 1, 1}, {60, 1, 2, 5}, {60, 2, 4, 25}, {60, 3, 8, 125}, {60, 4, 16, 625}, {100, 1, 0, 1},
            {100, 4, 0, 1}, {100, 0, 1, 1}, {0, 4, 1, 1}, {97, 4, 81, 100000000}, {1, 4, 96059601, 100000000}};
        for (int[] row : cases) {
            GoodbyeQuay x = Told.of("quarrels " + row[0] + ";");
            Sentence.row("odds of " + row[1] + " by " + row[0], n -> x.odds(row[1], n), row[2], row[3]);
        }
        Sentence.of(48, "NONE if one can't be.");
        GoodbyeQuay x = Told.of("quarrels 60;");
        Sentence.each("odds(n, 0)", n -> x.odds(n, 0), -1, 5, -1, MAX, MIN);
        Sentence.each("odds(n, 1)", n -> x.odds(n, 1), -1, 5, -1, MAX, MIN);
        Sentence.each("odds(1, n)", n -> x.odds(1, n), -1, 2, -1, MAX, MIN);
    }

    private static void lies() {
        Sentence.of(49, "The i-th number of what lies there; -2 if there is none such.");
        GoodbyeQuay x = Told.of(THREE);
        Sentence.each("lies at first", x::lies, -2, 0, 1, -1, MAX, MIN);
        x.dearest();
        Sentence.row("lies", x::lies, 1, 2, 0, -2);
        Sentence.each("lies", x::lies, -2, 3, 6, 7, -1, MAX, MIN);
        Told.minutes(x, 2);
        x.undo();
        x.image(0);
        x.back(0);
        Sentence.row("lies behind acts, undo, back", x::lies, 1, 2, 0, -2);
        Sentence.due("numbers that lie there", x.about(14), 3);
        x.order();
        Sentence.row("lies, two in the queue", x::lies, 1, 2, -2);
        Told.feed(x, "$");
        x.quay();
        Sentence.row("lies behind a fault", x::lies, 1, 2, -2);
        x.quay();
        Sentence.row("lies behind quay()", x::lies, -2, -2);
    }

    private static void seen() {
        Sentence.of(50, "A SEEN (MINUTES 0 .. 60, so many 0 .. 7): its number;");
        GoodbyeQuay x = Told.of(THREE);
        Sentence.due("seen(0, 0, true)", x.seen(0, 0, true), 0);
        Sentence.due("seen(60, 7, false)", x.seen(60, 7, false), 1);
        Sentence.due("seen(60, 0, true)", x.seen(60, 0, true), 2);
        Sentence.due("seen(0, 7, false)", x.seen(0, 7, false), 3);
        Sentence.of(50, "NONE, doing nothing, if one can't be, there are 30, or no PAIRS.");
        int[] before = Sentence.all(x);
        Sentence.each("seen(n, 0, true)", n -> x.seen(n, 0, true), -1, 61, -1, MAX, MIN);
        Sentence.each("seen(0, n, false)", n -> x.seen(0, n, false), -1, 8, -1, MAX, MIN);
        Sentence.same("seen() that is refused", before, x);
        for (int i = 4; i < 30; i++) {
            Sentence.due("seen " + i, x.seen(0, 0, true), i);
        }
        Sentence.due("a 31st", x.seen(0, 0, true), -1);
        Sentence.due("what is seen", x.about(10), 30);
        GoodbyeQuay none = Told.of("ship a sails 9;");
        Sentence.due("seen() without pairs", none.seen(0, 0, true), -1);
        Sentence.due("what is seen", none.about(10), 0);
        Told.feed(none, THREE);
        none.quay();
        Sentence.due("seen() with pairs", none.seen(0, 0, true), 0);
    }

    private static void untell() {
        Sentence.of(51, "It is UNTOLD: true;");
        GoodbyeQuay x = Told.of(THREE);
        x.seen(0, 1, true);
        x.seen(0, 0, false);
        Sentence.due("fits(0)", x.fits(0), 0);
        Sentence.due("untell(1)", x.untell(1), true);
        Sentence.due("fits(0), one counts still", x.fits(0), 0);
        Sentence.due("untell(0)", x.untell(0), true);
        Sentence.due("fits(0)", x.fits(0), 30);
        Sentence.of(51, "false if it is so already, or there is none such.");
        x.later(5);
        Sentence.due("untell(0) again", x.untell(0), false);
        Sentence.due("fits(0), untold at 0 as it was", x.fits(0), 30);
        for (int n : new int[] {1, 2, 29, 30, -1, MAX, MIN}) {
            Sentence.due("untell(" + n + ")", x.untell(n), false);
        }
        Sentence.due("seen(), the next number", x.seen(0, 0, true), 2);
        Sentence.due("untell(2)", x.untell(2), true);
    }

    private static void later() {
        Sentence.of(52, "So much later (0 .. 1000): the TIME;");
        GoodbyeQuay x = Told.of(THREE);
        Sentence.due("later(0)", x.later(0), 0);
        Sentence.due("later(1)", x.later(1), 1);
        Sentence.due("later(1000)", x.later(1000), 1001);
        Sentence.of(52, "NONE, doing nothing, for another number, or if it would be above 100,000.");
        Sentence.each("later", x::later, -1, 1001, -1, MAX, MIN);
        Sentence.due("the time", x.about(11), 1001);
        for (int i = 0; i < 98; i++) {
            x.later(1000);
        }
        Sentence.due("later(1000), it would be 100,001", x.later(1000), -1);
        Sentence.due("the time", x.about(11), 99001);
        Sentence.due("later(999)", x.later(999), 100000);
        Sentence.each("later at 100,000", x::later, -1, 1, 1000, MAX);
        Sentence.due("later(0) at 100,000", x.later(0), 100000);
    }

    private static void fits() {
        Sentence.of(53, "FITS: how many (0 without PAIRS).");
        GoodbyeQuay x = Told.of(THREE);
        Sentence.each("fits", x::fits, 30, 0, 1, -1, MAX, MIN);
        x.later(9);
        x.seen(0, 1, true);
        Sentence.each("fits, told at 9", x::fits, 30, 8, 0, -1, MIN);
        Sentence.each("fits, told at 9", x::fits, 0, 9, 10, 100000, MAX);
        GoodbyeQuay none = Told.of("ship a sails 9;");
        Sentence.each("fits without pairs", none::fits, 0, 0, 1, -1, MAX, MIN);
        Told.feed(x, "ship a sails 9;");
        x.quay();
        Sentence.each("fits without pairs any more", x::fits, 0, 0, 9);
        // Fewer pairs than were told before: what was of the others is gone.
        Told.feed(x, THREE);
        x.quay();
        Told.feed(x, "ship a sails 90;pair p ship a needs 3;pair q ship a needs 3;");
        x.quay();
        x.seen(1, 1, true);
        x.seen(3, 2, false);
        x.seen(4, 2, true);
        Sentence.due("fits, two pairs told behind three", x.fits(9), 30);
    }

    private static void sure() {
        Sentence.of(54, "The least of FITS (what 0), the greatest (1);");
        GoodbyeQuay x = Told.of(THREE);
        Sentence.due("sure(0, 0)", x.sure(0, 0), 1);
        Sentence.due("sure(1, 0)", x.sure(1, 0), 30);
        Sentence.of(54, "NONE if none FITS, or for another what.");
        Sentence.each("sure(n, 0)", n -> x.sure(n, 0), -1, 2, -1, MAX, MIN);
        x.later(3);
        x.seen(0, 1, true);
        Sentence.each("sure(n, 3), none fits", n -> x.sure(n, 3), -1, 0, 1, 2);
        Sentence.row("sure(n, 2)", n -> x.sure(n, 2), 1, 30);
        GoodbyeQuay none = Told.of("ship a sails 9;");
        Sentence.each("sure(n, 0) without pairs", n -> none.sure(n, 0), -1, 0, 1);
    }

    private static void ask() {
        Sentence.of(55, "ASK what 0: the number of MINUTES, 1: how many are left at the most;");
        GoodbyeQuay x = Told.of(THREE);
        Sentence.row("ask(n, 0)", n -> x.ask(n, 0), 0, 30);
        Sentence.of(55, "NONE if none FITS, or for another what.");
        Sentence.each("ask(n, 0)", n -> x.ask(n, 0), -1, 2, -1, MAX, MIN);
        x.later(3);
        x.seen(0, 1, true);
        Sentence.each("ask(n, 3), none fits", n -> x.ask(n, 3), -1, 0, 1, 2);
        Sentence.row("ask(n, 2)", n -> x.ask(n, 2), 0, 30);
        GoodbyeQuay none = Told.of("ship a sails 9;");
        Sentence.each("ask(n, 0) without pairs", n -> none.ask(n, 0), -1, 0, 1);
    }

    private static void image() {
        Sentence.of(56, "The QUEUE, how all PAIRS and RAILS are, who waited, the WAVES, the minute, the SEED are kept in a BOX 0 .. 2: the minute;");
        GoodbyeQuay x = Told.of("rails 2;quarrels 40;draw 9;ship z sails 0;" + THREE + "pair s ship z needs 1;pair t ship a needs 2;");
        x.await(1);
        x.shorten(1);
        x.change(0, 3);
        x.giveUp(4);
        Told.minutes(x, 2);
        int[] before = Sentence.all(x);
        for (int box = 0; box < 3; box++) {
            Sentence.due("image(" + box + ")", x.image(box), 2);
        }
        Sentence.same("image(), no act", before, x);
        Told.minutes(x, 20);
        x.join(4);
        Sentence.due("back(2)", x.back(2), 2);
        // What can be undone is not kept.
        before[8] = 0;
        Sentence.same("back()", before, x);
        Sentence.of(56, "NONE if there is none such.");
        Sentence.each("image", x::image, -1, 3, 4, 32, -1, MAX, MIN);
        Sentence.same("image() that is refused", before, x);
    }

    private static void back() {
        Sentence.of(57, "All is as it was kept (no ACTS are kept then): the minute;");
        GoodbyeQuay x = Told.of(THREE);
        x.image(1);
        Told.minutes(x, 3);
        x.image(0);
        x.minute();
        x.undo();
        Sentence.due("back(0)", x.back(0), 3);
        Sentence.due("acts to undo", x.about(8), 0);
        Sentence.due("acts to redo", x.about(9), 0);
        Sentence.due("back(1)", x.back(1), 0);
        Sentence.row("queue", x::queue, 0, 1, 2);
        Sentence.due("back(0) again", x.back(0), 3);
        x.minute();
        Sentence.due("acts go on from there", x.about(8), 1);
        x.image(0);
        Sentence.due("back(0), kept anew", x.back(0), 4);
        GoodbyeQuay y = Told.of("ship a sails 90;pair p ship a needs 9;pair q ship a needs 9;pair r ship a needs 9;");
        y.image(0);
        y.minute();
        y.image(1);
        y.back(0);
        y.change(0, 2);
        Sentence.due("steps(0), the last one", y.steps(0), 18);
        y.back(1);
        Sentence.due("will(0, 0, 0), at a rail as it was kept", y.will(0, 0, 0), 1);
        Sentence.due("will(0, 8, 0), as it was kept", y.will(0, 8, 0), 2);
        Sentence.of(57, "NONE, doing nothing, if nothing was.");
        x.minute();
        x.minute();
        x.undo();
        int[] before = Sentence.all(x);
        Sentence.each("back", x::back, -1, 2, 3, 32, 33, -1, MAX, MIN);
        Sentence.same("back() that is refused", before, x);
        Sentence.due("redo()", x.redo(), true);
        Told.feed(x, THREE);
        x.quay();
        Sentence.each("back behind quay()", x::back, -1, 0, 1, 2);
    }

    private static void about() {
        Sentence.of(58, "What 0: PAIRS, 1: SHIPS, 2: how many are in the QUEUE, 3: RAILS, 4: who has SAID it, 5: who MISSED it, both as bits, 6: the minute, 7: the SEED, 8: ACTS that can be undone, 9: redone, 10: what is SEEN, 11: the TIME, 12: bytes on the TAPE, 13: units, 14: numbers that lie there, 15: custom, 16: quarrels in 100.");
        GoodbyeQuay x = Told.of(THREE + "quarrels 12;draw 34;custom 56;lasts needs+(1);pair s ship a needs 9;");
        Sentence.row("about at first", x::about, 4, 2, 4, 1, 0, 0, 0, 34, 0, 0, 0, 0, 0, 3, 0, 56, 12);
        x.feed(0, 0, 0, 0, 0);
        x.order();
        x.later(77);
        x.seen(1, 1, true);
        x.seen(1, 1, true);
        x.untell(0);
        x.giveUp(3);
        // p says it by 6 (needs 5 and 1); q misses it in the next minute, in which r steps up.
        Told.minutes(x, 8);
        x.undo();
        // 34 becomes 729, 729 becomes 944.
        Sentence.row("about", x::about, 4, 2, 0, 1, 1, 2, 7, 944, 8, 1, 2, 77, 20, 3, 4, 56, 12);
    }

    private static void aboutEdges() {
        GoodbyeQuay x = Told.of("ship a sails 0;pair p ship a needs 9;pair q ship a needs 1;pair r ship a needs 1;"
                + "pair s ship a needs 1;pair t ship a needs 1;pair u ship a needs 1;pair v ship a needs 1;"
                + "ship b sails 1;ship c sails 1;ship d sails 1;ship e sails 1;rails 2;custom 60;quarrels 100;draw 999;"
                + "lasts 1" + "+1".repeat(29) + ";");
        Told.feed(x, " ".repeat(1600));
        x.minute();
        x.order();
        Sentence.row("about, all that can be", x::about, 7, 5, 0, 2, 0, 127, 1, 999, 1, 0, 0, 0, 1600, 30, 0, 60, 100);
        Sentence.of(58, "NONE for another what.");
        Sentence.each("about", x::about, -1, 17, 18, -1, MAX, MIN);
    }
}
