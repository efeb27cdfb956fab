/** Promises 6 to 19, 45, 56 to 58: what is now, the acts, undo and redo, images. */
public final class ActPromisesTest {
    private static int wrong = 0;

    /** One rail: p 0 to 5, q missed, r 5 to 10 when its ship sails. */
    private static final String THREE = "ship a sails 10 waits 5;ship b sails 4;"
            + "pair p ship a needs 5;pair q ship b needs 3 love 4;pair r ship a needs 6 love 2;";

    private static void due(int promise, String what, int got, int want) {
        if (got != want) {
            wrong++;
            System.out.println("promise " + promise + ": " + what + " answered " + got + ", due is " + want);
        }
    }

    private static void due(int promise, String what, boolean got, boolean want) {
        due(promise, what, got ? 1 : 0, want ? 1 : 0);
    }

    public static void main(String[] args) {
        ships();
        pairs();
        queueAndRails();
        lengths();
        formulas();
        minutes();
        minutesWithTwoRails();
        quarrels();
        changes();
        shortForms();
        givingUpAndJoining();
        waiting();
        undoing();
        undoingFortyAtMost();
        images();
        abouts();
        System.out.println(wrong == 0 ? "all answers are as due" : wrong + " answers are not as due");
        if (wrong != 0) {
            System.exit(1);
        }
    }

    private static void ships() {
        GoodbyeQuay x = Told.of(THREE);
        int[][] want = {{10, 5, 0, 0, 5}, {4, 0, 0, 0, 2}};
        for (int s = 0; s < 2; s++) {
            for (int what = 0; what < 5; what++) {
                due(6, "ship(" + s + ", " + what + ")", x.ship(s, what), want[s][what]);
            }
            due(6, "ship(" + s + ", 5)", x.ship(s, 5), -1);
            due(6, "ship(" + s + ", -1)", x.ship(s, -1), -1);
        }
        due(6, "ship(2, 0)", x.ship(2, 0), -1);
        due(6, "ship(-1, 0)", x.ship(-1, 0), -1);
        due(6, "ship(max, 4)", x.ship(Integer.MAX_VALUE, 4), -1);
        x.await(0);
        due(6, "sails when it waited", x.ship(0, 0), 15);
        due(6, "waits when it waited", x.ship(0, 1), 5);
        due(6, "waited", x.ship(0, 2), 1);
        Told.minutes(x, 3);
        due(6, "gone at 3", x.ship(1, 3), 0);
        x.minute();
        due(6, "gone at 4", x.ship(1, 3), 1);
        due(6, "its pairs when it is gone", x.ship(1, 4), 2);
        due(6, "gone at once", Told.of("ship a sails 0;").ship(0, 3), 1);
        due(6, "its pairs, none", Told.of("ship a sails 0;").ship(0, 4), 0);
    }

    private static void pairs() {
        GoodbyeQuay x = Told.of(THREE);
        int[][] want = {{0, 5, 1, 0, 0, 0}, {1, 3, 4, 0, 1, 0}, {0, 6, 2, 0, 2, 0}};
        for (int p = 0; p < 3; p++) {
            for (int what = 0; what < 6; what++) {
                due(7, "pair(" + p + ", " + what + ")", x.pair(p, what), want[p][what]);
            }
            due(7, "pair(" + p + ", 6)", x.pair(p, 6), -1);
            due(7, "pair(" + p + ", -1)", x.pair(p, -1), -1);
        }
        due(7, "pair(3, 0)", x.pair(3, 0), -1);
        due(7, "pair(-1, 3)", x.pair(-1, 3), -1);
        due(7, "pair(min, 0)", x.pair(Integer.MIN_VALUE, 0), -1);
        x.shorten(2);
        due(7, "short", x.pair(2, 5), 1);
        x.giveUp(2);
        due(7, "how one is that gave up", x.pair(2, 3), 4);
        due(7, "its place", x.pair(2, 4), -1);
        due(7, "it is short still", x.pair(2, 5), 1);
        x.minute();
        due(7, "how one is at a rail", x.pair(0, 3), 1);
        due(7, "its place", x.pair(0, 4), -1);
        due(7, "the next one's place", x.pair(1, 4), 0);
        Told.minutes(x, 4);
        due(7, "how one is that said it", x.pair(0, 3), 2);
        due(7, "how one is whose ship is gone, in the queue", x.pair(1, 3), 0);
        x.minute();
        due(7, "how one is that missed it", x.pair(1, 3), 3);
    }

    private static void queueAndRails() {
        GoodbyeQuay x = Told.of(THREE + "rails 2;");
        due(8, "queue(0)", x.queue(0), 0);
        due(8, "queue(2)", x.queue(2), 2);
        due(8, "queue(3)", x.queue(3), -1);
        due(8, "queue(-1)", x.queue(-1), -1);
        due(8, "queue(max)", x.queue(Integer.MAX_VALUE), -1);
        due(9, "rail(1, 0)", x.rail(1, 0), -1);
        due(9, "rail(1, 1)", x.rail(1, 1), 0);
        x.minute();
        due(8, "queue(0)", x.queue(0), 2);
        due(8, "queue(1)", x.queue(1), -1);
        due(9, "rail(0, 0)", x.rail(0, 0), 0);
        due(9, "rail(0, 1)", x.rail(0, 1), 4);
        due(9, "rail(1, 0)", x.rail(1, 0), 1);
        due(9, "rail(1, 1)", x.rail(1, 1), 2);
        due(9, "rail(0, 2)", x.rail(0, 2), -1);
        due(9, "rail(0, -1)", x.rail(0, -1), -1);
        due(9, "rail(2, 0)", x.rail(2, 0), -1);
        due(9, "rail(2, 1)", x.rail(2, 1), -1);
        due(9, "rail(-1, 1)", x.rail(-1, 1), -1);
        Told.minutes(x, 2);
        due(9, "a rail free again", x.rail(1, 0), -1);
        due(9, "a rail free again", x.rail(1, 1), 0);
    }

    private static void lengths() {
        GoodbyeQuay x = Told.of("ship a sails 50;ship b sails 1;pair p ship a needs 11;pair q ship a needs 12;"
                + "pair r ship b needs 30;pair s ship a needs 1;");
        due(10, "as much as the custom", x.length(0), 11);
        due(10, "more than the custom", x.length(1), 11);
        due(10, "the least", x.length(3), 1);
        due(10, "length(4)", x.length(4), -1);
        due(10, "length(-1)", x.length(-1), -1);
        x.minute();
        due(10, "at a rail", x.length(0), -1);
        due(10, "in the queue, its ship gone", x.length(2), 11);
        x.giveUp(1);
        due(10, "given up", x.length(1), -1);
        x = Told.of("ship a sails 50;pair p ship a needs 30;custom 60;");
        due(10, "less than the custom", x.length(0), 30);
    }

    private static int lengthBy(String formula) {
        GoodbyeQuay x = Told.of("ship a sails 30 waits 8;pair p ship a needs 7 love 3;pair q ship a needs 2;custom 9;"
                + "lasts " + formula + ";");
        due(10, "fault of " + formula, x.fault(0), 0);
        return x.length(0);
    }

    private static void formula(String formula, int want) {
        due(10, "length by " + formula, lengthBy(formula), want);
    }

    private static void formulas() {
        formula("needs", 7);
        formula("love", 3);
        formula("custom", 9);
        formula("behind", 1);
        formula("left", 30);
        formula("minute", 1);
        formula("minute+5", 5);
        formula("behind+5", 6);
        formula("0", 1);
        formula("0-5", 1);
        formula("60", 60);
        formula("61", 60);
        formula("2+3*4", 14);
        formula("(2+3)*4", 20);
        formula("20-3-4", 13);
        formula("20-(3-4)", 21);
        formula("40/4/2", 5);
        formula("40/(4/2)", 20);
        formula("47%10*2", 14);
        formula("7/2", 3);
        formula("(0-7)/2+10", 7);
        formula("(0-7)%4+10", 7);
        formula("7%(0-4)+10", 13);
        formula("5/0+2", 2);
        formula("5%0+2", 2);
        formula("0/0+3", 3);
        formula("(1<2)*5", 5);
        formula("(2<2)*5+2", 2);
        formula("(2>1)*5", 5);
        formula("(2>2)*5+2", 2);
        formula("(2=2)*5", 5);
        formula("(2=3)*5+2", 2);
        formula("(1+1<1*3)*5", 5);
        formula("(not 0)*5", 5);
        formula("(not 7)*5+2", 2);
        formula("(not not 7)*5", 5);
        formula("(not 1=2)*5", 5);
        formula("(not 0 and 0)*5+2", 2);
        formula("(4 and 2)*5", 5);
        formula("(4 and 0)*5+2", 2);
        formula("(0 and 4)*5+2", 2);
        formula("(0 or 4)*5", 5);
        formula("(4 or 0)*5", 5);
        formula("(0 or 0)*5+2", 2);
        formula("(1 or 1 and 0)*5", 5);
        formula("(0 and 1 or 1)*5", 5);
        formula("((1 or 1) and 0)*5+2", 2);
        formula("(0-1 and 2)*5", 5);
        // Ints wrap: 65536 * 65536 is 0, 32768 * 65536 the least of all.
        formula("256*256*256*256+7", 7);
        formula("(128*256*256*256<0)*9", 9);
        formula("128*256*256*256/(0-1)", 1);
        formula("128*256*256*256%(0-1)+6", 6);
        GoodbyeQuay x = Told.of("ship a sails 30 waits 8;ship b sails 2;pair p ship a needs 7;pair q ship a needs 2;"
                + "pair r ship b needs 3;lasts left+behind*0;");
        x.await(0);
        due(10, "left when it waited", x.length(0), 38);
        x.minute();
        due(10, "left a minute on", x.length(1), 37);
        x = Told.of("ship a sails 10;ship b sails 2;pair p ship a needs 7;pair r ship b needs 3;pair q ship a needs 2;"
                + "lasts 20-left-behind;");
        Told.minutes(x, 5);
        due(10, "left of one whose ship is gone", x.length(1), 19);
        x = Told.of("ship a sails 30;pair p ship a needs 7;pair r ship a needs 3;lasts minute+10;");
        Told.minutes(x, 4);
        due(10, "minute", x.length(1), 14);
    }

    private static void minutes() {
        GoodbyeQuay x = Told.of(THREE);
        int[] said = {0, 0, 0, 0, 1, 0, 0, 0, 0, 0};
        for (int i = 0; i < said.length; i++) {
            due(11, "minute " + i, x.minute(), said[i]);
            due(45, "waves behind minute " + i, x.waves(), i < 5 ? 0 : i < 9 ? 1 : 2);
            due(58, "minutes", x.about(6), i + 1);
        }
        due(11, "pair(2, 3): cut off", x.pair(2, 3), 3);
        due(11, "rail(0, 0)", x.rail(0, 0), -1);
        due(11, "rail(0, 1)", x.rail(0, 1), 0);
        due(11, "minute() when it is empty", x.minute(), -1);
        due(11, "minutes", x.about(6), 10);
        due(11, "acts", x.about(8), 10);
        // One that says it just as its ship sails is not cut off.
        x = Told.of("ship a sails 3;pair p ship a needs 3;");
        due(11, "minute()", x.minute() + x.minute(), 0);
        due(11, "minute()", x.minute(), 1);
        due(11, "said it", x.pair(0, 3), 2);
        due(45, "waves", x.waves(), 0);
        x = Told.of("ship a sails 2;pair p ship a needs 3;");
        Told.minutes(x, 2);
        due(11, "cut off", x.pair(0, 3), 3);
        due(45, "waves", x.waves(), 1);
        // Two whose ship is gone miss it in one minute, and the one behind them steps up in it.
        x = Told.of("ship a sails 0;ship b sails 9;pair p ship a needs 3;pair q ship a needs 3;pair r ship b needs 1;");
        due(11, "minute()", x.minute(), 4);
        due(45, "waves", x.waves(), 2);
        due(11, "missed", x.about(5), 3);
        // All in the queue miss it: a rail stays free.
        x = Told.of("ship a sails 0;pair p ship a needs 3;pair q ship a needs 3;rails 2;");
        due(11, "minute()", x.minute(), 0);
        due(11, "empty", x.minute(), -1);
        due(45, "waves", x.waves(), 2);
        // No rail is free, so one whose ship is gone stays in the queue.
        x = Told.of("ship a sails 1;ship b sails 9;pair r ship b needs 3;pair p ship a needs 3;");
        Told.minutes(x, 3);
        due(11, "queue(0)", x.queue(0), 1);
        due(11, "minute()", x.minute(), 0);
        due(11, "queue(0)", x.queue(0), -1);
    }

    private static void minutesWithTwoRails() {
        GoodbyeQuay x = Told.of("rails 2;ship a sails 30;pair p ship a needs 2;pair q ship a needs 2;"
                + "pair r ship a needs 1;pair s ship a needs 5;lasts needs+behind;");
        // behind is told ahead of stepping out: p 2+3, q 2+2.
        due(11, "minute()", x.minute(), 0);
        due(9, "rail(0, 1)", x.rail(0, 1), 4);
        due(9, "rail(1, 1)", x.rail(1, 1), 3);
        Told.minutes(x, 2);
        due(11, "q says it", x.minute(), 2);
        due(11, "p says it, r steps up to the other rail", x.minute(), 1);
        due(9, "rail(1, 0)", x.rail(1, 0), 2);
        due(9, "rail(1, 1)", x.rail(1, 1), 1);
        due(11, "r says it, s steps up", x.minute(), 4);
        due(9, "rail(0, 0)", x.rail(0, 0), 3);
        x = Told.of("rails 2;ship a sails 30;pair p ship a needs 2;pair q ship a needs 2;");
        x.minute();
        due(11, "two say it in one minute", x.minute(), 3);
        due(58, "who said it", x.about(4), 3);
    }

    private static void quarrels() {
        // 9 becomes 304, 304 becomes 719, 719 becomes 574.
        GoodbyeQuay x = Told.of("ship a sails 30;pair p ship a needs 1;pair q ship a needs 1;pair r ship a needs 1;"
                + "quarrels 20;draw 9;");
        due(58, "the seed", x.about(7), 9);
        due(11, "4 is less than 20", x.minute(), 0);
        due(58, "the seed", x.about(7), 304);
        due(9, "rail(0, 1)", x.rail(0, 1), 3);
        Told.minutes(x, 2);
        due(58, "the seed changes by stepping up alone", x.about(7), 304);
        due(11, "minute()", x.minute(), 1);
        due(11, "19 is less than 20", x.minute(), 0);
        due(58, "the seed", x.about(7), 719);
        Told.minutes(x, 3);
        due(11, "74 is not less than 20", x.minute(), 4);
        due(58, "the seed", x.about(7), 574);
        x = Told.of("ship a sails 30;pair p ship a needs 1;pair q ship a needs 1;quarrels 19;draw 304;");
        due(11, "19 is not less than 19", x.minute(), 1);
        x = Told.of("ship a sails 30;pair p ship a needs 1;draw 7;");
        due(11, "no quarrels", x.minute(), 1);
        due(58, "the seed changes without quarrels, too", x.about(7), 30);
        x = Told.of("ship a sails 30;pair p ship a needs 30;custom 60;lasts 60;quarrels 100;");
        x.minute();
        due(9, "3 minutes more than 60", x.rail(0, 1), 62);
        x = Told.of("ship a sails 30;pair p ship a needs 5;quarrels 100;");
        x.shorten(0);
        x.minute();
        due(9, "3 minutes more of the short form", x.rail(0, 1), 4);
        x = Told.of("ship a sails 30;ship b sails 0;pair p ship b needs 5;quarrels 100;draw 5;");
        x.minute();
        due(58, "the seed stays when nobody steps up", x.about(7), 5);
    }

    private static void changes() {
        GoodbyeQuay x = Told.of(THREE);
        due(12, "change(0, 1)", x.change(0, 1), 2);
        due(12, "queue(0)", x.queue(0), 1);
        due(12, "queue(1)", x.queue(1), 0);
        due(12, "queue(2)", x.queue(2), 2);
        due(12, "change(2, 1)", x.change(2, 1), 1);
        due(12, "queue(0)", x.queue(0), 2);
        due(12, "queue(2)", x.queue(2), 1);
        due(12, "acts", x.about(8), 2);
        due(12, "change(1, 1)", x.change(1, 1), -1);
        due(12, "change(0, 3)", x.change(0, 3), -1);
        due(12, "change(3, 0)", x.change(3, 0), -1);
        due(12, "change(-1, 0)", x.change(-1, 0), -1);
        due(12, "change(0, min)", x.change(0, Integer.MIN_VALUE), -1);
        x.giveUp(0);
        due(12, "change(0, 1) when one gave up", x.change(0, 1), -1);
        due(12, "change(1, 0) when one gave up", x.change(1, 0), -1);
        due(12, "acts", x.about(8), 3);
        x.minute();
        due(12, "change(1, 2) when one is at a rail", x.change(1, 2), -1);
        due(12, "queue(0)", x.queue(0), 1);
    }

    private static void shortForms() {
        GoodbyeQuay x = Told.of(THREE);
        due(13, "shorten(0)", x.shorten(0), 2);
        due(13, "length(0)", x.length(0), 2);
        due(13, "shorten(0) again", x.shorten(0), -1);
        due(14, "insist(1)", x.insist(1), -1);
        due(13, "acts", x.about(8), 1);
        due(14, "insist(0)", x.insist(0), 5);
        due(14, "insist(0) again", x.insist(0), -1);
        due(14, "acts", x.about(8), 2);
        due(13, "shorten(1)", x.shorten(1), 1);
        due(13, "shorten(3)", x.shorten(3), -1);
        due(13, "shorten(-1)", x.shorten(-1), -1);
        due(14, "insist(3)", x.insist(3), -1);
        due(14, "insist(-1)", x.insist(-1), -1);
        x.shorten(0);
        x.minute();
        due(13, "a rail's time", x.rail(0, 1), 1);
        due(14, "insist(0) at a rail", x.insist(0), -1);
        x.giveUp(2);
        due(13, "shorten(2) when it gave up", x.shorten(2), -1);
        x = Told.of("ship a sails 9;pair p ship a needs 1;pair q ship a needs 1;lasts behind*30+60;");
        due(13, "half of 60, not of more", x.shorten(0), 30);
        x = Told.of("ship a sails 9;pair p ship a needs 1;");
        due(13, "1 at least", x.shorten(0), 1);
        due(14, "insist", x.insist(0), 1);
        x = Told.of("ship a sails 9;pair p ship a needs 3;");
        due(13, "half, cut", x.shorten(0), 1);
    }

    private static void givingUpAndJoining() {
        GoodbyeQuay x = Told.of(THREE);
        due(15, "giveUp(1)", x.giveUp(1), 2);
        due(15, "queue(1)", x.queue(1), 2);
        due(15, "giveUp(1) again", x.giveUp(1), -1);
        due(15, "giveUp(3)", x.giveUp(3), -1);
        due(15, "giveUp(-1)", x.giveUp(-1), -1);
        due(15, "waves", x.waves(), 0);
        due(15, "acts", x.about(8), 1);
        due(16, "join(0): it is in the queue", x.join(0), -1);
        due(16, "join(3)", x.join(3), -1);
        due(16, "join(-1)", x.join(-1), -1);
        due(16, "join(1)", x.join(1), 2);
        due(16, "queue(2)", x.queue(2), 1);
        due(16, "how it is", x.pair(1, 3), 0);
        due(16, "acts", x.about(8), 2);
        x.giveUp(1);
        x.minute();
        due(15, "giveUp(0) at a rail", x.giveUp(0), -1);
        due(16, "join(0) at a rail", x.join(0), -1);
        Told.minutes(x, 2);
        due(16, "join(1) at 3", x.join(1), 1);
        x.giveUp(1);
        x.minute();
        due(16, "join(1) at 4, its ship gone", x.join(1), -1);
        x.minute();
        due(16, "join(0), it has said it", x.join(0), -1);
        due(15, "giveUp(0), it has said it", x.giveUp(0), -1);
        Told.minutes(x, 9);
        due(16, "join(2), it missed it", x.join(2), -1);
        x = Told.of("ship a sails 9;pair p ship a needs 3;pair q ship a needs 3;");
        x.giveUp(0);
        due(15, "the last one", x.giveUp(1), 0);
        due(11, "minute() when all gave up", x.minute(), -1);
        due(16, "join(1)", x.join(1), 0);
        due(16, "join(0)", x.join(0), 1);
        due(16, "queue(0)", x.queue(0), 1);
    }

    private static void waiting() {
        GoodbyeQuay x = Told.of(THREE);
        due(17, "await(2)", x.await(2), -1);
        due(17, "await(-1)", x.await(-1), -1);
        due(17, "acts", x.about(8), 0);
        due(17, "await(0)", x.await(0), 15);
        due(17, "await(0) again", x.await(0), -1);
        due(17, "await(1): it waits 0", x.await(1), 4);
        due(17, "await(1) again", x.await(1), -1);
        due(17, "waited", x.ship(1, 2), 1);
        due(17, "acts", x.about(8), 2);
        due(17, "says(2)", x.says(2), 11);
        x = Told.of(THREE);
        Told.minutes(x, 4);
        due(17, "await(1) when it is gone", x.await(1), -1);
        Told.minutes(x, 5);
        due(17, "await(0) at 9", x.await(0), 15);
        Told.minutes(x, 1);
        due(17, "not cut off", x.pair(2, 3), 1);
        due(17, "minute()", x.minute(), 4);
    }

    private static void undoing() {
        GoodbyeQuay x = Told.of(THREE + "quarrels 50;draw 3;");
        due(18, "undo()", x.undo(), false);
        due(19, "redo()", x.redo(), false);
        x.await(0);
        x.shorten(2);
        x.change(0, 2);
        x.giveUp(1);
        x.join(1);
        x.minute();
        int[] before = all(x);
        due(18, "undo() of minute()", x.undo(), true);
        due(18, "minute", x.about(6), 0);
        due(18, "seed", x.about(7), 3);
        due(18, "rail(0, 0)", x.rail(0, 0), -1);
        due(18, "queue(0)", x.queue(0), 2);
        due(18, "undo() of join()", x.undo(), true);
        due(18, "pair(1, 3)", x.pair(1, 3), 4);
        due(18, "undo() of giveUp()", x.undo(), true);
        due(18, "queue(1)", x.queue(1), 1);
        due(18, "undo() of change()", x.undo(), true);
        due(18, "queue(0)", x.queue(0), 0);
        due(18, "undo() of shorten()", x.undo(), true);
        due(18, "pair(2, 5)", x.pair(2, 5), 0);
        due(18, "undo() of await()", x.undo(), true);
        due(18, "ship(0, 0)", x.ship(0, 0), 10);
        due(18, "undo() of nothing", x.undo(), false);
        due(18, "undone", x.about(8), 0);
        due(19, "redone", x.about(9), 6);
        for (int i = 0; i < 6; i++) {
            due(19, "redo() " + i, x.redo(), true);
        }
        due(19, "redo() of nothing", x.redo(), false);
        int[] behind = all(x);
        for (int i = 0; i < before.length; i++) {
            due(19, "what is, " + i, behind[i], before[i]);
        }
        x.undo();
        x.undo();
        due(18, "acts", x.about(8), 4);
        due(19, "acts", x.about(9), 2);
        x.insist(0);
        due(19, "an act that does nothing keeps redo()", x.about(9), 2);
        x.redo();
        due(19, "acts", x.about(9), 1);
        x.insist(2);
        due(19, "another act takes redo() away", x.about(9), 0);
        due(19, "redo()", x.redo(), false);
        due(18, "acts", x.about(8), 6);
    }

    private static int[] all(GoodbyeQuay x) {
        int[] what = new int[64];
        int n = 0;
        for (int p = 0; p < 3; p++) {
            for (int i = 0; i < 6; i++) {
                what[n++] = x.pair(p, i);
            }
            what[n++] = x.queue(p);
        }
        for (int i = 0; i < 5; i++) {
            what[n++] = x.ship(0, i);
            what[n++] = x.ship(1, i);
        }
        what[n++] = x.rail(0, 0);
        what[n++] = x.rail(0, 1);
        what[n++] = x.about(6);
        what[n++] = x.about(7);
        what[n++] = x.about(8);
        what[n] = x.waves();
        return what;
    }

    private static void undoingFortyAtMost() {
        GoodbyeQuay x = Told.of(THREE);
        for (int i = 0; i < 45; i++) {
            x.change(i % 2, 2);
            due(18, "acts", x.about(8), Math.min(40, i + 1));
        }
        int[] queues = new int[46];
        for (int i = 45; i >= 5; i--) {
            queues[i] = x.queue(0) * 100 + x.queue(1) * 10 + x.queue(2);
            due(18, "undo() " + i, x.undo(), i > 5);
        }
        due(19, "acts", x.about(9), 40);
        GoodbyeQuay y = Told.of(THREE);
        for (int i = 0; i < 45; i++) {
            y.change(i % 2, 2);
            if (i >= 4) {
                due(18, "behind act " + i, queues[i + 1], y.queue(0) * 100 + y.queue(1) * 10 + y.queue(2));
            }
        }
        for (int i = 0; i < 40; i++) {
            due(19, "redo() " + i, x.redo(), true);
        }
        due(19, "redo()", x.redo(), false);
        due(19, "queue(0)", x.queue(0), y.queue(0));
        for (int i = 0; i < 20; i++) {
            x.undo();
        }
        x.minute();
        due(18, "acts", x.about(8), 21);
        due(19, "acts", x.about(9), 0);
    }

    private static void images() {
        GoodbyeQuay x = Told.of(THREE + "quarrels 100;draw 4;");
        due(56, "image(3)", x.image(3), -1);
        due(56, "image(-1)", x.image(-1), -1);
        due(57, "back(0)", x.back(0), -1);
        due(57, "back(3)", x.back(3), -1);
        due(57, "back(-1)", x.back(-1), -1);
        due(56, "image(2)", x.image(2), 0);
        x.await(0);
        x.shorten(1);
        x.giveUp(2);
        x.minute();
        int[] before = all(x);
        due(56, "image(0)", x.image(0), 1);
        due(56, "an image is no act", x.about(8), 4);
        Told.minutes(x, 12);
        due(45, "waves", x.waves(), 1);
        x.undo();
        due(57, "back(1)", x.back(1), -1);
        due(57, "acts behind that", x.about(8), 11);
        due(57, "back(0)", x.back(0), 1);
        due(57, "no acts", x.about(8), 0);
        due(57, "no acts", x.about(9), 0);
        due(57, "undo()", x.undo(), false);
        due(57, "redo()", x.redo(), false);
        int[] behind = all(x);
        before[behind.length - 1] = 0;
        for (int i = 0; i < before.length; i++) {
            boolean acts = before[i] == 4 && behind[i] == 0;
            due(57, "what is, " + i, acts ? 4 : behind[i], before[i]);
        }
        due(57, "back(2)", x.back(2), 0);
        due(57, "ship(0, 0)", x.ship(0, 0), 10);
        due(57, "pair(1, 5)", x.pair(1, 5), 0);
        due(57, "pair(2, 3)", x.pair(2, 3), 0);
        due(57, "seed", x.about(7), 4);
        due(57, "queue(0)", x.queue(0), 0);
        x.minute();
        due(57, "acts go on from there", x.about(8), 1);
        due(56, "image(2) again", x.image(2), 1);
        x.undo();
        due(57, "back(2)", x.back(2), 1);
        due(57, "back(0) still", x.back(0), 1);
        due(57, "pair(2, 3)", x.pair(2, 3), 4);
    }

    private static void abouts() {
        GoodbyeQuay x = Told.of(THREE + "quarrels 12;draw 34;custom 56;lasts needs+(1);");
        x.feed(0, 0, 0, 0, 0);
        x.order();
        x.later(77);
        x.seen(1, 1, true);
        x.seen(1, 1, true);
        x.untell(0);
        Told.minutes(x, 6);
        x.undo();
        x.minute();
        x.minute();
        x.undo();
        // p says it by 6 (needs 5 and 1); then q misses it and r steps up.
        x.minute();
        x.undo();
        int[] want = {3, 2, 2, 1, 1, 0, 6, (34 * 137 + 71) % 1000, 6, 1, 2, 77, 20, 3, 3, 56, 12};
        for (int i = 0; i < want.length; i++) {
            due(58, "about(" + i + ")", x.about(i), want[i]);
        }
        due(58, "about(17)", x.about(17), -1);
        due(58, "about(-1)", x.about(-1), -1);
        due(58, "about(max)", x.about(Integer.MAX_VALUE), -1);
        due(58, "about(min)", x.about(Integer.MIN_VALUE), -1);
        x.redo();
        due(58, "missed", x.about(5), 2);
    }
}
