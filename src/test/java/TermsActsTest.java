import java.io.IOException;

/** The second paragraph of the document's Terms, sentence by sentence: what is, how long it lasts, minutes, acts. */
public final class TermsActsTest {
    private static final int HERE = 102;
    private static final String FAR = "ship far sails 200;";

    public static void main(String[] args) throws IOException {
        gone();
        howAllIsAtFirst();
        lengthWithoutLasts();
        lengthByWhatIs();
        lengthByInts();
        lengthByTruth();
        lengthLimits();
        thoseWhoMissIt();
        steppingUp();
        quarrels();
        sayingIt();
        cuttingOff();
        emptyQuay();
        actsOfThoseInTheQueue();
        joining();
        waiting();
        undoAndRedo();
        fortyAtMost();
        Sentence.finish(HERE, HERE);
    }

    private static void gone() {
        Sentence.of(HERE, "A SHIP is GONE when the minute (0 at first) is no less than what sails tells");
        GoodbyeQuay x = Told.of("ship a sails 0;ship b sails 1;ship c sails 2;" + FAR + "pair p ship far needs 9;");
        Sentence.due("the minute at first", x.about(6), 0);
        int[][] gone = {{1, 0, 0}, {1, 1, 0}, {1, 1, 1}};
        for (int minute = 0; minute < 3; minute++) {
            for (int s = 0; s < 3; s++) {
                Sentence.due("ship(" + s + ", 3) at " + minute, x.ship(s, 3), gone[minute][s]);
            }
            x.minute();
        }
        Sentence.of(HERE, "(it is later by what is told while it waits, see acts).");
        x = Told.of("ship a sails 1 waits 2;" + FAR + "pair p ship far needs 9;");
        x.await(0);
        for (int minute = 0; minute < 5; minute++) {
            Sentence.due("ship(0, 3) at " + minute, x.ship(0, 3), minute < 3 ? 0 : 1);
            x.minute();
        }
    }

    private static void howAllIsAtFirst() {
        String seven = FAR;
        for (char c = 'a'; c < 'h'; c++) {
            seven += "pair " + c + " ship far needs 1;";
        }
        Sentence.of(HERE, "The QUEUE holds PAIRS, the first one ahead (all, as told, at first).");
        GoodbyeQuay x = Told.of(seven);
        for (int i = 0; i < 7; i++) {
            Sentence.due("queue(" + i + ")", x.queue(i), i);
        }
        Sentence.due("queue(7)", x.queue(7), -1);
        Sentence.due("queue(0) of none", Told.of(FAR).queue(0), -1);
        x.minute();
        Sentence.due("the first one steps up first", x.queue(0), 1);

        Sentence.of(HERE, "A PAIR is in the QUEUE, at a RAIL, has SAID it, MISSED it, or GIVEN up");
        x = Told.of("ship b sails 1;" + FAR + "pair p ship far needs 2;pair q ship b needs 1;pair r ship far needs 1;"
                + "pair s ship far needs 1;");
        Sentence.due("in the queue", x.pair(0, 3), 0);
        x.minute();
        Sentence.due("at a rail", x.pair(0, 3), 1);
        x.giveUp(3);
        Sentence.due("given up", x.pair(3, 3), 4);
        x.minute();
        Sentence.due("said it", x.pair(0, 3), 2);
        Sentence.due("in the queue, its ship gone", x.pair(1, 3), 0);
        x.minute();
        Sentence.due("missed it", x.pair(1, 3), 3);
        Sentence.due("said it", x.pair(2, 3), 2);

        Sentence.of(HERE, "it agreed on the SHORT form or not (not, at first).");
        x = Told.of(seven);
        for (int p = 0; p < 7; p++) {
            Sentence.due("pair(" + p + ", 5)", x.pair(p, 5), 0);
        }
        x.shorten(6);
        Sentence.due("pair(6, 5)", x.pair(6, 5), 1);
        Sentence.due("pair(5, 5)", x.pair(5, 5), 0);

        Sentence.of(HERE, "A RAIL is FREE or holds a PAIR for so many minutes yet.");
        x = Told.of(FAR + "pair p ship far needs 2;");
        Sentence.due("rail(0, 0), free", x.rail(0, 0), -1);
        Sentence.due("rail(0, 1), free", x.rail(0, 1), 0);
        x.minute();
        Sentence.due("rail(0, 0)", x.rail(0, 0), 0);
        Sentence.due("rail(0, 1)", x.rail(0, 1), 1);
        x.minute();
        Sentence.due("rail(0, 0), free again", x.rail(0, 0), -1);
        Sentence.due("rail(0, 1), free again", x.rail(0, 1), 0);
    }

    private static void lengthWithoutLasts() {
        Sentence.of(HERE, "LENGTH of a PAIR: what comes of lasts (the lesser one of needs and custom, if it is not told)");
        GoodbyeQuay x = Told.of(FAR + "custom 5;pair p ship far needs 4;pair q ship far needs 5;pair r ship far needs 6;"
                + "pair s ship far needs 1;pair t ship far needs 30;");
        int[] want = {4, 5, 5, 1, 5};
        for (int p = 0; p < want.length; p++) {
            Sentence.due("length(" + p + ")", x.length(p), want[p]);
        }
        x = Told.of(FAR + "custom 60;pair p ship far needs 30;");
        Sentence.due("length(0), a custom of 60", x.length(0), 30);
        x = Told.of(FAR + "custom 1;pair p ship far needs 30;");
        Sentence.due("length(0), a custom of 1", x.length(0), 1);
        x = Told.of(FAR + "custom 1;lasts needs;pair p ship far needs 30;");
        Sentence.due("length(0), lasts told", x.length(0), 30);
        Sentence.of(HERE, "by needs, love, custom");
        x = Told.of(FAR + "custom 60;lasts needs;pair p ship far needs 1;pair q ship far needs 30;");
        Sentence.due("needs 1", x.length(0), 1);
        Sentence.due("needs 30", x.length(1), 30);
        x = Told.of(FAR + "lasts love+1;pair p ship far needs 9 love 0;pair q ship far needs 9 love 20;pair r ship far needs 9;");
        Sentence.due("love 0", x.length(0), 1);
        Sentence.due("love 20", x.length(1), 21);
        Sentence.due("love, not told", x.length(2), 2);
        Sentence.due("custom 60", Told.of(FAR + "custom 60;lasts custom;pair p ship far needs 9;").length(0), 60);
        Sentence.due("custom, not told", Told.of(FAR + "lasts custom;pair p ship far needs 9;").length(0), 11);
    }

    private static void lengthByWhatIs() {
        Sentence.of(HERE, "behind (how many PAIRS are in the QUEUE behind it)");
        String seven = FAR + "lasts behind+10;";
        for (char c = 'a'; c < 'h'; c++) {
            seven += "pair " + c + " ship far needs 1;";
        }
        GoodbyeQuay x = Told.of(seven);
        Sentence.due("six behind", x.length(0), 16);
        Sentence.due("one behind", x.length(5), 11);
        Sentence.due("none behind", x.length(6), 10);
        x.giveUp(6);
        Sentence.due("five behind", x.length(0), 15);
        x.change(0, 5);
        Sentence.due("none behind, places changed", x.length(0), 10);
        x.minute();
        Sentence.due("those at a rail are not behind", x.length(1), 14);

        Sentence.of(HERE, "left (how many minutes till its SHIP is GONE)");
        x = Told.of("ship a sails 240 waits 60;ship b sails 2;" + FAR + "lasts left/6;pair p ship a needs 9;"
                + "pair q ship b needs 9;");
        Sentence.due("240 minutes left", x.length(0), 40);
        x.await(0);
        Sentence.due("300 minutes left", x.length(0), 50);
        x = Told.of("ship b sails 3;" + FAR + "lasts left*10+5;pair p ship far needs 9;pair q ship b needs 9;");
        int[] want = {35, 25, 15, 5, 5};
        for (int minute = 0; minute < want.length; minute++) {
            Sentence.due("length(1) at " + minute, x.length(1), want[minute]);
            x.minute();
        }

        Sentence.of(HERE, "minute (ints, wrapping;");
        x = Told.of(FAR + "lasts minute+7;pair p ship far needs 9;pair q ship far needs 9;");
        for (int minute = 0; minute < 6; minute++) {
            Sentence.due("length(1) at " + minute, x.length(1), minute + 7);
            x.minute();
        }
        formula("(128*256*256*256<0)*9", 9);
        formula("(128*256*256*256-1>0)*9", 9);
        formula("(128*256*256*256-1+1<0)*9", 9);
        formula("256*256*256*256+7", 7);
        formula("9999*9999*9999*0+7", 7);
        // 9999 * 9999 * 9999 is 999,700,029,999; less 232 times 2 to the 32 that is 3,267,617,327, an int below 0.
        formula("(9999*9999*9999<0)*8", 8);
    }

    private static void formula(String formula, int want) {
        GoodbyeQuay x = Told.of(FAR + "pair p ship far needs 7;lasts " + formula + ";");
        Sentence.due("fault(0) of " + formula, x.fault(0), 0);
        Sentence.due("length by " + formula, x.length(0), want);
    }

    private static void lengthByInts() {
        Sentence.of(HERE, "/ cut, % its rest,");
        formula("7/2", 3);
        formula("(0-7)/2+10", 7);
        formula("7/(0-2)+10", 7);
        formula("(0-7)/(0-2)+10", 13);
        formula("7%4", 3);
        formula("(0-7)%4+10", 7);
        formula("7%(0-4)+10", 13);
        formula("(0-7)%(0-4)+10", 7);
        formula("128*256*256*256/(0-1)", 1);
        formula("(128*256*256*256/(0-1)<0)*5", 5);
        formula("128*256*256*256%(0-1)+6", 6);
        formula("40/4/2", 5);
        formula("47%10*2", 14);
        formula("20-3-4", 13);
        formula("2+3*4", 14);
        Sentence.of(HERE, "both by 0: 0;");
        formula("7/0+2", 2);
        formula("7%0+2", 2);
        formula("0/0+2", 2);
        formula("0%0+2", 2);
        formula("128*256*256*256/0+2", 2);
        formula("(0-7)%minute+2", 2);
    }

    private static void lengthByTruth() {
        Sentence.of(HERE, "relations, and, or, not are 1 or 0, of what is not 0)");
        String[] isTrue = {"1<2", "0-1<0", "2>1", "2=2", "0=0", "2 and 3", "0-1 and 1", "2 or 0", "0 or 2", "0 or 0-2",
            "not 0", "not not 7", "not 1=2", "1 or 1 and 0", "0 and 0 or 5", "not 0 and not 0", "not 0-0"};
        for (String truth : isTrue) {
            formula("(" + truth + ")+20", 21);
        }
        String[] isNot = {"2<2", "3<2", "2>2", "1>2", "1=2", "1=0", "2 and 0", "0 and 2", "0 or 0", "not 7", "not 0-1",
            "not not 0", "(1 or 1) and 0", "not (0 and 0) and 0", "not 1 or 0"};
        for (String truth : isNot) {
            formula("(" + truth + ")+20", 20);
        }
    }

    private static void lengthLimits() {
        Sentence.of(HERE, "1 at least, 60 at most;");
        String[] formulas = {"0", "1", "2", "59", "60", "61", "9999", "0-1", "0-9999", "128*256*256*256",
            "128*256*256*256-1"};
        int[] whole = {1, 1, 2, 59, 60, 60, 60, 1, 1, 1, 60};
        for (int i = 0; i < formulas.length; i++) {
            formula(formulas[i], whole[i]);
        }
        Sentence.of(HERE, "of the SHORT form half of that, cut, 1 at least.");
        int[] half = {1, 1, 1, 29, 30, 30, 30, 1, 1, 1, 30};
        for (int i = 0; i < formulas.length; i++) {
            GoodbyeQuay x = Told.of(FAR + "pair p ship far needs 7;lasts " + formulas[i] + ";");
            Sentence.due("shorten(0) by " + formulas[i], x.shorten(0), half[i]);
            Sentence.due("length(0) by " + formulas[i], x.length(0), half[i]);
        }
        int[] needs = {1, 2, 3, 4, 5, 11, 12, 30};
        int[] halves = {1, 1, 1, 2, 2, 5, 5, 5};
        for (int i = 0; i < needs.length; i++) {
            GoodbyeQuay x = Told.of(FAR + "pair p ship far needs " + needs[i] + ";");
            Sentence.due("shorten(0) of needs " + needs[i], x.shorten(0), halves[i]);
        }
    }

    private static void thoseWhoMissIt() {
        Sentence.of(HERE, "A MINUTE: RAIL by RAIL that is FREE:");
        GoodbyeQuay x = Told.of("rails 2;" + FAR + "pair p ship far needs 2;pair q ship far needs 1;pair r ship far needs 3;"
                + "pair s ship far needs 1;");
        x.minute();
        Sentence.due("rail(0, 0)", x.rail(0, 0), 0);
        Sentence.due("rail(1, 0), it said it", x.rail(1, 0), -1);
        x.minute();
        Sentence.due("rail(0, 0), it said it", x.rail(0, 0), -1);
        Sentence.due("rail(1, 0): nobody steps up to one that is not free", x.rail(1, 0), 2);
        x.minute();
        Sentence.due("said in the third minute", x.about(4), 11);

        Sentence.of(HERE, "as long as the first PAIR of the QUEUE has a SHIP that is GONE, it has MISSED it, out of the QUEUE,");
        String gone = "ship a sails 0;" + FAR;
        x = Told.of(gone + "pair p ship a needs 2;pair q ship a needs 2;pair r ship a needs 2;pair s ship far needs 2;"
                + "pair t ship a needs 2;");
        x.minute();
        Sentence.due("three at once", x.about(5), 7);
        Sentence.due("the next one steps up in the same minute", x.rail(0, 0), 3);
        Sentence.due("who is not the first stays", x.queue(0), 4);
        x.minute();
        x.minute();
        Sentence.due("it is the first one now", x.about(5), 23);
        x = Told.of("rails 2;" + gone + "pair p ship a needs 2;pair s ship far needs 2;pair t ship a needs 2;");
        x.minute();
        Sentence.due("missed at one rail, then at the other", x.about(5), 5);
        Sentence.due("rail(0, 0)", x.rail(0, 0), 1);
        Sentence.due("rail(1, 0)", x.rail(1, 0), -1);
        x = Told.of("ship b sails 1;" + FAR + "pair p ship far needs 3;pair q ship b needs 1;");
        Told.minutes(x, 3);
        Sentence.due("no rail was free: it stays", x.queue(0), 1);
        x.minute();
        Sentence.due("a rail was free: it is out", x.queue(0), -1);

        Sentence.of(HERE, "one WAVE is left over (0 at first);");
        x = Told.of(gone + "pair p ship a needs 2;pair q ship a needs 2;");
        Sentence.due("waves() at first", x.waves(), 0);
        x.minute();
        Sentence.due("waves(), one each", x.waves(), 2);
    }

    private static void steppingUp() {
        Sentence.of(HERE, "then the first one of the QUEUE, if there is one, steps up to the RAIL for its LENGTH");
        GoodbyeQuay x = Told.of("rails 2;draw 5;" + FAR + "pair p ship far needs 4;");
        x.minute();
        Sentence.due("rail(0, 1)", x.rail(0, 1), 3);
        Sentence.due("rail(1, 0): there is none", x.rail(1, 0), -1);
        Sentence.due("the seed, by one stepping up", x.about(7), (5 * 137 + 71) % 1000);
        x = Told.of("ship a sails 0;draw 5;pair p ship a needs 4;");
        x.minute();
        Sentence.due("rail(0, 0): all missed it", x.rail(0, 0), -1);
        Sentence.due("the seed, nobody stepped up", x.about(7), 5);

        Sentence.of(HERE, "(told ahead of its stepping out);");
        x = Told.of("rails 2;" + FAR + "lasts behind*10+5;pair p ship far needs 4;pair q ship far needs 4;");
        x.minute();
        Sentence.due("rail(0, 1): one was behind it", x.rail(0, 1), 14);
        Sentence.due("rail(1, 1): none was", x.rail(1, 1), 4);
    }

    private static int firstLength(int draw, int quarrels) {
        GoodbyeQuay x = Told.of(FAR + "pair p ship far needs 9;draw " + draw + ";quarrels " + quarrels + ";");
        x.minute();
        return x.rail(0, 1) + 1;
    }

    private static void quarrels() {
        Sentence.of(HERE, "the SEED (draw, at first) becomes its 137-fold and 71 more, modulo 1,000,");
        int[] draws = {0, 1, 7, 44, 999};
        int[] seeds = {71, 208, 30, 99, 934};
        for (int i = 0; i < draws.length; i++) {
            GoodbyeQuay x = Told.of(FAR + "pair p ship far needs 1;draw " + draws[i] + ";");
            Sentence.due("the seed at first", x.about(7), draws[i]);
            x.minute();
            Sentence.due("the seed behind " + draws[i], x.about(7), seeds[i]);
        }
        GoodbyeQuay two = Told.of("rails 2;" + FAR + "pair p ship far needs 1;pair q ship far needs 1;draw 9;");
        two.minute();
        Sentence.due("the seed by two in one minute", two.about(7), 719);

        Sentence.of(HERE, "and if its rest by 100 is less than quarrels tells, it is 3 minutes more.");
        // 0 becomes 71, 44 becomes 99, 17 becomes 400, 999 becomes 934.
        int[][] cases = {{0, 71, 9}, {0, 72, 12}, {44, 99, 9}, {44, 100, 12}, {17, 0, 9}, {17, 1, 12}, {999, 34, 9},
            {999, 35, 12}, {0, 0, 9}, {0, 100, 12}};
        for (int[] row : cases) {
            Sentence.due("draw " + row[0] + ", quarrels " + row[1], firstLength(row[0], row[1]), row[2]);
        }
        GoodbyeQuay x = Told.of(FAR + "pair p ship far needs 9;lasts 60;quarrels 100;");
        x.minute();
        Sentence.due("more than 60 by a quarrel", x.rail(0, 1), 62);
        x = Told.of(FAR + "pair p ship far needs 9;quarrels 100;");
        x.shorten(0);
        x.minute();
        Sentence.due("a quarrel is not halved", x.rail(0, 1), 6);
    }

    private static void sayingIt() {
        Sentence.of(HERE, "Then each RAIL that holds one does so for 1 less;");
        GoodbyeQuay x = Told.of("rails 2;" + FAR + "pair p ship far needs 3;pair q ship far needs 2;");
        x.minute();
        Sentence.due("rail(0, 1)", x.rail(0, 1), 2);
        Sentence.due("rail(1, 1)", x.rail(1, 1), 1);
        x.minute();
        Sentence.due("rail(0, 1)", x.rail(0, 1), 1);
        Sentence.due("rail(1, 1)", x.rail(1, 1), 0);
        x.minute();
        Sentence.due("rail(1, 1), free: no less than 0", x.rail(1, 1), 0);
        Sentence.of(HERE, "if that is 0, the PAIR has SAID it, the RAIL is FREE.");
        x = Told.of(FAR + "pair p ship far needs 1;pair q ship far needs 1;");
        Sentence.due("minute(), of 1 minute", x.minute(), 1);
        Sentence.due("said", x.about(4), 1);
        Sentence.due("rail(0, 0)", x.rail(0, 0), -1);
        Sentence.due("the next one waits for the next minute", x.queue(0), 1);
        Sentence.of(HERE, "The minute goes up by 1.");
        Sentence.due("the minute", x.about(6), 1);
        x.minute();
        Sentence.due("the minute", x.about(6), 2);
        x.minute();
        Sentence.due("the minute on an empty quay", x.about(6), 2);
    }

    private static void cuttingOff() {
        Sentence.of(HERE, "Then each PAIR at a RAIL whose SHIP is GONE is cut off: it has MISSED it, the RAIL is FREE, one WAVE is left over.");
        GoodbyeQuay x = Told.of("ship a sails 3;pair p ship a needs 3;");
        Told.minutes(x, 3);
        Sentence.due("just in time", x.pair(0, 3), 2);
        Sentence.due("waves(), just in time", x.waves(), 0);
        x = Told.of("ship a sails 3;pair p ship a needs 4;");
        Told.minutes(x, 2);
        Sentence.due("a minute ahead of that", x.pair(0, 3), 1);
        Sentence.due("minute()", x.minute(), 0);
        Sentence.due("cut off", x.pair(0, 3), 3);
        Sentence.due("rail(0, 0)", x.rail(0, 0), -1);
        Sentence.due("rail(0, 1)", x.rail(0, 1), 0);
        Sentence.due("waves()", x.waves(), 1);
        x = Told.of("rails 2;ship a sails 1;ship b sails 2;pair p ship a needs 4;pair q ship a needs 1;pair r ship b needs 4;"
                + "pair s ship b needs 4;");
        Sentence.due("minute()", x.minute(), 2);
        Sentence.due("one is cut off, one says it", x.about(5), 1);
        x.minute();
        Sentence.due("two are cut off at once", x.about(5), 13);
        Sentence.due("waves()", x.waves(), 3);
    }

    private static void emptyQuay() {
        Sentence.of(HERE, "The quay is EMPTY if no PAIR is in the QUEUE nor at a RAIL.");
        Sentence.due("minute() without pairs", Told.of(FAR).minute(), -1);
        Sentence.due("empty() without pairs", Told.of(FAR).empty(), 0);
        GoodbyeQuay x = Told.of(FAR + "pair p ship far needs 2;pair q ship far needs 2;");
        x.minute();
        x.giveUp(1);
        Sentence.due("empty(), one is at a rail", x.empty(), 1);
        Sentence.due("minute(), one is at a rail", x.minute(), 1);
        Sentence.due("minute(), nobody is there", x.minute(), -1);
        x.join(1);
        Sentence.due("empty(), one is in the queue", x.empty(), 2);
        Sentence.due("minute(), one is in the queue", x.minute(), 0);
    }

    private static void actsOfThoseInTheQueue() {
        Sentence.of(HERE, "ACTS: a MINUTE; two in the QUEUE change places; one in the QUEUE agrees on the SHORT form, or not any more; one in the QUEUE GIVES up;");
        GoodbyeQuay x = Told.of("ship b sails 1;" + FAR + "pair p ship far needs 2;pair q ship far needs 2;"
                + "pair r ship b needs 2;pair s ship far needs 2;");
        x.minute();
        x.giveUp(3);
        int[] before = Sentence.all(x);
        for (int p : new int[] {0, 3}) {
            Sentence.due("change(" + p + ", 1)", x.change(p, 1), -1);
            Sentence.due("change(1, " + p + ")", x.change(1, p), -1);
            Sentence.due("shorten(" + p + ")", x.shorten(p), -1);
            Sentence.due("insist(" + p + ")", x.insist(p), -1);
            Sentence.due("giveUp(" + p + ")", x.giveUp(p), -1);
        }
        Sentence.same("what can't be done", before, x);
        // One in the queue whose ship is gone is in the queue.
        Sentence.due("change(1, 2)", x.change(1, 2) >= 0, true);
        Sentence.due("queue(0)", x.queue(0), 2);
        Sentence.due("shorten(2)", x.shorten(2), 1);
        Sentence.due("insist(2)", x.insist(2), 2);
        Sentence.due("giveUp(2)", x.giveUp(2), 1);
        Sentence.due("acts", x.about(8), 6);
    }

    private static void joining() {
        Sentence.of(HERE, "one that has GIVEN up or MISSED it, and whose SHIP is not GONE, joins (last in the QUEUE);");
        GoodbyeQuay x = Told.of("ship b sails 2;" + FAR + "pair p ship far needs 1;pair q ship b needs 9;"
                + "pair r ship far needs 1;pair s ship far needs 1;");
        x.giveUp(1);
        Sentence.due("join(1), last", x.join(1), 3);
        Sentence.due("queue(3)", x.queue(3), 1);
        x.giveUp(1);
        x.minute();
        Sentence.due("join(1) a minute ahead of sailing", x.join(1), 2);
        x.giveUp(1);
        x.minute();
        int[] before = Sentence.all(x);
        Sentence.due("join(1), its ship is gone", x.join(1), -1);
        Sentence.due("join(0), it has said it", x.join(0), -1);
        Sentence.due("join(3), it is in the queue", x.join(3), -1);
        Sentence.same("what can't be done", before, x);
        x = Told.of("ship b sails 1;pair p ship b needs 9;");
        x.minute();
        Sentence.due("it missed it", x.pair(0, 3), 3);
        Sentence.due("join(0), it missed it, its ship is gone", x.join(0), -1);
    }

    private static void waiting() {
        Sentence.of(HERE, "a SHIP that is not GONE waits (it sails as much later as waits tells; once each).");
        GoodbyeQuay x = Told.of("ship a sails 2 waits 60;ship b sails 1 waits 9;ship c sails 1;" + FAR
                + "pair p ship far needs 9;");
        Sentence.due("await(2), by 0", x.await(2), 1);
        Sentence.due("await(2) again, though by 0", x.await(2), -1);
        x.minute();
        int[] before = Sentence.all(x);
        Sentence.due("await(1), gone", x.await(1), -1);
        Sentence.same("what can't be done", before, x);
        Sentence.due("await(0), a minute ahead of sailing", x.await(0), 62);
        Sentence.due("await(0) again", x.await(0), -1);
        Sentence.due("ship(0, 0)", x.ship(0, 0), 62);
    }

    private static void undoAndRedo() {
        Sentence.of(HERE, "UNDO takes back the latest ACT that was not,");
        GoodbyeQuay x = Told.of("ship a sails 50 waits 9;pair p ship a needs 4;pair q ship a needs 4;");
        x.shorten(0);
        x.change(0, 1);
        x.await(0);
        x.undo();
        Sentence.due("await() is undone", x.ship(0, 0), 50);
        Sentence.due("change() is not", x.queue(0), 1);
        x.undo();
        Sentence.due("change() is undone", x.queue(0), 0);
        Sentence.due("shorten() is not", x.pair(0, 5), 1);
        x.undo();
        Sentence.due("shorten() is undone", x.pair(0, 5), 0);
        Sentence.due("undo(), there is none", x.undo(), false);
        Sentence.of(HERE, "REDO does that again which was taken back last (till another ACT);");
        Sentence.due("redo()", x.redo(), true);
        Sentence.due("shorten() again", x.pair(0, 5), 1);
        Sentence.due("change() not yet", x.queue(0), 0);
        x.redo();
        Sentence.due("change() again", x.queue(0), 1);
        Sentence.due("shorten(0) is refused: no act", x.shorten(0), -1);
        x.redo();
        Sentence.due("await() again", x.ship(0, 0), 59);
        Sentence.due("redo(), there is none", x.redo(), false);
        x.undo();
        x.undo();
        x.minute();
        Sentence.due("redo() behind another act", x.redo(), false);
        Sentence.due("what can be undone", x.about(8), 2);
        x.undo();
        Sentence.due("the other act is undone", x.about(6), 0);
        Sentence.due("shorten() is not", x.pair(0, 5), 1);
    }

    private static void fortyAtMost() {
        Sentence.of(HERE, "40 at most are kept, the oldest go.");
        GoodbyeQuay x = Told.of(FAR + "pair p ship far needs 4;pair q ship far needs 4;");
        x.shorten(0);
        for (int i = 1; i < 40; i++) {
            x.change(0, 1);
        }
        Sentence.due("40 acts", x.about(8), 40);
        for (int i = 0; i < 40; i++) {
            Sentence.due("undo() " + i, x.undo(), true);
        }
        Sentence.due("all 40 are undone", x.pair(0, 5), 0);
        Sentence.due("undo()", x.undo(), false);
        Sentence.due("what can be redone", x.about(9), 40);
        for (int i = 0; i < 40; i++) {
            Sentence.due("redo() " + i, x.redo(), true);
        }
        Sentence.due("redo()", x.redo(), false);
        x.change(0, 1);
        Sentence.due("41 acts", x.about(8), 40);
        for (int i = 0; i < 40; i++) {
            x.undo();
        }
        Sentence.due("the oldest one went", x.pair(0, 5), 1);
        Sentence.due("undo() of the oldest", x.undo(), false);
        Sentence.due("redone and undone are 40 together", x.about(9), 40);
        x.insist(0);
        Sentence.due("what can be undone behind another act", x.about(8), 1);
        Sentence.due("what can be redone behind another act", x.about(9), 0);
        GoodbyeQuay y = Told.of(FAR + "lasts 60;pair p ship far needs 4;");
        Told.minutes(y, 45);
        for (int minute = 44; minute >= 5; minute--) {
            y.undo();
            Sentence.due("the minute, undone", y.about(6), minute);
        }
        Sentence.due("undo() of the oldest five", y.undo(), false);
        for (int minute = 6; minute <= 45; minute++) {
            y.redo();
            Sentence.due("the minute, redone", y.about(6), minute);
        }
        Sentence.due("redo()", y.redo(), false);
    }
}
