/** Promises 20 to 55: what will be, what would be better, who holds up whom, what is seen. */
public final class AskPromisesTest {
    private static int wrong = 0;

    /** One rail: p 0 to 5, q missed, r 5 to 10 when its ship sails. */
    private static final String THREE = "ship a sails 10 waits 5;ship b sails 4;"
            + "pair p ship a needs 5;pair q ship b needs 3 love 4;pair r ship a needs 6 love 2;";

    private static void due(int promise, String what, int got, int want) {
        if (got != want) {
            wrong++;
            System.out.println("promise " + promise + ": " + what + " answered " + got + ", due is " + want);
        }
    }

    private static void lie(int promise, GoodbyeQuay x, int... want) {
        for (int i = 0; i < want.length; i++) {
            due(promise, "lies(" + i + ")", x.lies(i), want[i]);
        }
        due(49, "lies(" + want.length + ")", x.lies(want.length), -2);
        due(49, "lies(-1)", x.lies(-1), -2);
        due(49, "lies(max)", x.lies(Integer.MAX_VALUE), -2);
        due(58, "about(14)", x.about(14), want.length);
    }

    public static void main(String[] args) {
        wills();
        saysAndSteps();
        ends();
        orders();
        shortests();
        spares();
        holds();
        swaps();
        wishes();
        trades();
        delays();
        grudges();
        blames();
        rooms();
        lasts();
        seconds();
        asides();
        nextOnes();
        laws();
        oddsOfNone();
        seens();
        nothingIsDone();
        System.out.println(wrong == 0 ? "all answers are as due" : wrong + " answers are not as due");
        if (wrong != 0) {
            System.exit(1);
        }
    }

    private static void wills() {
        GoodbyeQuay x = Told.of(THREE + "quarrels 100;");
        int[][] p = {{0, 0, 0}, {1, 1, 0}, {4, 1, 0}, {5, 2, 0}, {400, 2, 0},
            {1, 1, 1}, {5, 1, 1}, {7, 1, 1}, {8, 2, 1}, {400, 2, 1}};
        for (int[] row : p) {
            due(20, "will(0, " + row[0] + ", " + row[2] + ")", x.will(0, row[0], row[2]), row[1]);
        }
        due(20, "will(1, 5, 0)", x.will(1, 5, 0), 0);
        due(20, "will(1, 6, 0)", x.will(1, 6, 0), 3);
        due(20, "will(1, 8, 1)", x.will(1, 8, 1), 0);
        due(20, "will(1, 9, 1)", x.will(1, 9, 1), 3);
        due(20, "will(2, 5, 0)", x.will(2, 5, 0), 0);
        due(20, "will(2, 6, 0)", x.will(2, 6, 0), 1);
        due(20, "will(2, 9, 0)", x.will(2, 9, 0), 1);
        due(20, "will(2, 10, 0)", x.will(2, 10, 0), 3);
        due(20, "will(3, 1, 0)", x.will(3, 1, 0), -1);
        due(20, "will(-1, 1, 0)", x.will(-1, 1, 0), -1);
        due(20, "will(0, -1, 0)", x.will(0, -1, 0), -1);
        due(20, "will(0, 401, 0)", x.will(0, 401, 0), -1);
        due(20, "will(0, 1, 2)", x.will(0, 1, 2), -1);
        due(20, "will(0, 1, -1)", x.will(0, 1, -1), -1);
        x.giveUp(1);
        due(20, "one that gave up", x.will(1, 100, 0), 4);
        Told.minutes(x, 3);
        // A quarrel that was goes on, though none is to come.
        due(20, "will(0, 0, 0) from 3 on", x.will(0, 0, 0), 1);
        due(20, "will(0, 4, 0) from 3 on", x.will(0, 4, 0), 1);
        due(20, "will(0, 5, 0) from 3 on", x.will(0, 5, 0), 2);
        Told.minutes(x, 5);
        due(20, "one that said it", x.will(0, 0, 1), 2);
        // 9 becomes 304, then 719, then 574: the second one quarrels by less than 20, the third does not.
        x = Told.of("ship a sails 40;pair p ship a needs 1;pair q ship a needs 1;pair r ship a needs 1;quarrels 20;draw 9;");
        due(20, "will(0, 4, 1)", x.will(0, 4, 1), 2);
        due(20, "will(1, 7, 1)", x.will(1, 7, 1), 1);
        due(20, "will(1, 8, 1)", x.will(1, 8, 1), 2);
        due(20, "will(2, 9, 1)", x.will(2, 9, 1), 2);
        due(20, "will(2, 3, 0)", x.will(2, 3, 0), 2);
        // Who misses it in the queue takes no draw, be it just as its ship sails.
        x = Told.of("ship a sails 4;ship b sails 40;pair p ship b needs 1;pair q ship a needs 1;pair r ship b needs 1;"
                + "quarrels 20;draw 9;");
        due(20, "will(1, 5, 1)", x.will(1, 5, 1), 3);
        due(20, "will(2, 7, 1)", x.will(2, 7, 1), 1);
        due(20, "will(2, 8, 1)", x.will(2, 8, 1), 2);
    }

    private static void saysAndSteps() {
        GoodbyeQuay x = Told.of(THREE + "quarrels 100;");
        int[] says = {5, -1, -1};
        int[] steps = {0, -1, 5};
        for (int p = 0; p < 3; p++) {
            due(21, "says(" + p + ")", x.says(p), says[p]);
            due(22, "steps(" + p + ")", x.steps(p), steps[p]);
        }
        due(21, "says(3)", x.says(3), -1);
        due(21, "says(-1)", x.says(-1), -1);
        due(22, "steps(3)", x.steps(3), -1);
        due(22, "steps(-1)", x.steps(-1), -1);
        x.giveUp(1);
        due(21, "says(1) when it gave up", x.says(1), -1);
        due(22, "steps(1) when it gave up", x.steps(1), -1);
        Told.minutes(x, 2);
        due(21, "says(0) from 2 on, with the quarrel that was", x.says(0), 6);
        due(22, "steps(0) at a rail", x.steps(0), -1);
        due(22, "steps(2) from 2 on", x.steps(2), 6);
        Told.minutes(x, 6);
        due(21, "says(0) when it has", x.says(0), 0);
        x = Told.of("rails 2;ship a sails 40;pair p ship a needs 4;pair q ship a needs 2;pair r ship a needs 3;");
        due(21, "says(0)", x.says(0), 4);
        due(21, "says(1)", x.says(1), 2);
        due(21, "says(2)", x.says(2), 5);
        due(22, "steps(1)", x.steps(1), 0);
        due(22, "steps(2)", x.steps(2), 2);
        // Cut off in the minute in which it steps up: it did step up.
        x = Told.of("ship a sails 1;pair p ship a needs 4;");
        due(22, "steps(0)", x.steps(0), 0);
        due(21, "says(0)", x.says(0), -1);
    }

    private static void ends() {
        GoodbyeQuay x = Told.of(THREE);
        due(23, "missing()", x.missing(), 6);
        due(24, "empty()", x.empty(), 10);
        due(25, "count()", x.count(), 1);
        due(26, "love()", x.love(), 1);
        due(46, "litter()", x.litter(), 2);
        x.await(0);
        due(23, "missing()", x.missing(), 2);
        due(24, "empty()", x.empty(), 11);
        due(25, "count()", x.count(), 2);
        due(26, "love()", x.love(), 3);
        due(46, "litter()", x.litter(), 1);
        Told.minutes(x, 7);
        due(23, "missing() from 7 on", x.missing(), 2);
        due(24, "empty() from 7 on", x.empty(), 4);
        due(25, "count() from 7 on", x.count(), 2);
        due(26, "love() from 7 on", x.love(), 3);
        due(46, "litter() from 7 on", x.litter(), 1);
        due(45, "waves()", x.waves(), 1);
        // Missing it in the queue takes a minute, too.
        x = Told.of("ship a sails 0;pair p ship a needs 3;pair q ship a needs 3;");
        due(24, "empty()", x.empty(), 1);
        due(23, "missing()", x.missing(), 3);
        due(46, "litter()", x.litter(), 2);
        x = Told.of("ship a sails 4;ship b sails 2;pair p ship a needs 9;pair q ship b needs 3;");
        due(24, "empty()", x.empty(), 5);
        x.giveUp(0);
        due(24, "empty()", x.empty(), 2);
        due(23, "one that gave up misses nothing", x.missing(), 2);
        x.giveUp(1);
        due(24, "empty() at once", x.empty(), 0);
    }

    private static void orders() {
        GoodbyeQuay x = Told.of(THREE);
        due(27, "order()", x.order(), 2);
        lie(27, x, 1, 0, 2);
        due(28, "dearest()", x.dearest(), 6);
        lie(28, x, 1, 2, 0);
        x.change(0, 1);
        x.change(0, 2);
        due(27, "order() is by numbers, not by places", x.order(), 2);
        lie(27, x, 1, 0, 2);
        // r steps up, then the others queue in another order; who is at a rail is there whatever comes.
        x = Told.of("ship a sails 12;ship b sails 7;pair r ship a needs 3 love 5;pair p ship a needs 5;pair q ship b needs 4;");
        x.minute();
        due(27, "order() from 1 on", x.order(), 3);
        lie(27, x, 2, 1);
        due(28, "dearest() from 1 on", x.dearest(), 7);
        lie(28, x, 2, 1);
        Told.minutes(x, 2);
        due(27, "order() with one that has said it", x.order(), 3);
        x.giveUp(1);
        due(27, "order() of those in the queue alone", x.order(), 2);
        lie(27, x, 2);
        due(28, "dearest()", x.dearest(), 6);
        x.giveUp(2);
        due(27, "order() of nobody", x.order(), 1);
        lie(27, x);
        due(28, "dearest() of nobody", x.dearest(), 5);
        lie(28, x);
        // Of like ones the first: the one without love goes first though nobody gains by it.
        x = Told.of("ship a sails 0;pair p ship a needs 1 love 0;pair q ship a needs 1 love 7;");
        x.change(0, 1);
        due(27, "order() of none", x.order(), 0);
        lie(27, x, 0, 1);
        due(28, "dearest() of none", x.dearest(), 0);
        lie(28, x, 0, 1);
        // The first one lasts 10 minutes, the last one 5, whoever it is.
        x = Told.of("ship a sails 15;pair p ship a needs 1;pair q ship a needs 1;lasts 5+behind*5;");
        due(27, "order() by behind", x.order(), 2);
        lie(27, x, 0, 1);
        // Seven that all say it in the last order but one: each needs a ship that sails just then.
        x = Told.of("ship a sails 1;ship b sails 2;ship c sails 3;ship d sails 4;ship e sails 7;"
                + "pair a ship e needs 1;pair b ship e needs 1;pair c ship e needs 1;pair d ship d needs 1;"
                + "pair e ship c needs 1;pair f ship b needs 1;pair g ship a needs 1 love 9;");
        due(27, "order()", x.order(), 7);
        lie(27, x, 6, 5, 4, 3, 0, 1, 2);
        due(28, "dearest()", x.dearest(), 15);
        lie(28, x, 6, 5, 4, 3, 0, 1, 2);
    }

    private static void shortests() {
        GoodbyeQuay x = Told.of(THREE);
        due(29, "shortest(0)", x.shortest(0), 2);
        due(29, "shortest(1)", x.shortest(1), 3);
        due(29, "shortest(2)", x.shortest(2), -1);
        due(29, "shortest(-1)", x.shortest(-1), -1);
        x.shorten(1);
        due(29, "shortest(0), one did so", x.shortest(0), 1);
        due(29, "shortest(1), one did so", x.shortest(1), 1);
        x.shorten(0);
        due(29, "shortest(0), both did so", x.shortest(0), 0);
        due(29, "shortest(1), both did so", x.shortest(1), 0);
        x = Told.of("ship a sails 3;pair p ship a needs 8;");
        due(29, "shortest(0), by none", x.shortest(0), -1);
        due(29, "shortest(1), by none", x.shortest(1), -1);
        // Either would do: the least set.
        x = Told.of("ship a sails 6;pair p ship a needs 4;pair q ship a needs 4;");
        due(29, "shortest(1)", x.shortest(1), 1);
        x.change(0, 1);
        due(29, "shortest(1), by numbers", x.shortest(1), 1);
        // One at a rail that is cut off: none will do.
        x = Told.of("ship a sails 3;ship b sails 9;pair p ship a needs 8;pair q ship b needs 1;");
        due(29, "shortest(0) ahead of that", x.shortest(0), -1);
        x.minute();
        due(29, "shortest(0)", x.shortest(0), -1);
        due(30, "spare(0)", x.spare(0), -1);
        due(30, "spare(1)", x.spare(1), -1);
    }

    private static void spares() {
        GoodbyeQuay x = Told.of(THREE);
        due(30, "spare(0)", x.spare(0), 1);
        due(30, "spare(1)", x.spare(1), 1);
        due(30, "spare(2)", x.spare(2), -1);
        due(30, "spare(-1)", x.spare(-1), -1);
        x.giveUp(0);
        due(30, "spare(0)", x.spare(0), 0);
        due(30, "spare(1)", x.spare(1), 0);
        // Each of two would do: the least set.
        x = Told.of("ship a sails 6;pair p ship a needs 4;pair q ship a needs 4;");
        due(30, "spare(1)", x.spare(1), 1);
        x.change(0, 1);
        due(30, "spare(1), by numbers", x.spare(1), 1);
        x = Told.of("ship a sails 0;pair p ship a needs 4;pair q ship a needs 4;");
        due(30, "spare(0), all", x.spare(0), 2);
        due(30, "spare(1), all", x.spare(1), 3);
    }

    private static void holds() {
        GoodbyeQuay x = Told.of(THREE);
        due(31, "hold(0)", x.hold(0), 1);
        due(31, "hold(1)", x.hold(1), 4);
        due(31, "hold(2)", x.hold(2), -1);
        due(31, "hold(-1)", x.hold(-1), -1);
        x.minute();
        due(31, "hold(0) from 1 on", x.hold(0), 1);
        x.await(0);
        due(31, "hold(0), it waited", x.hold(0), 0);
        Told.minutes(x, 3);
        due(31, "hold(1), it is gone", x.hold(1), -1);
        x = Told.of("ship a sails 10;ship b sails 9;pair p ship a needs 3;");
        due(31, "hold(1), nobody is of it", x.hold(1), 0);
        // At a rail, it needs 5 minutes yet while its ship sails in 2.
        x = Told.of("ship a sails 3;pair p ship a needs 6;");
        x.minute();
        due(31, "hold(0), one at a rail", x.hold(0), 3);
        // The later it sails, the longer it lasts.
        x = Told.of("ship a sails 5;pair p ship a needs 6;lasts left+1;");
        due(31, "hold(0): 60 is the most", x.hold(0), 55);
        x = Told.of("ship a sails 1;pair p ship a needs 1;pair q ship a needs 1;pair r ship a needs 1;pair s ship a needs 1;"
                + "pair t ship a needs 1;lasts 60;");
        due(31, "hold(0), by none: 241 were needed", Told.of("ship a sails 59;pair p ship a needs 1;pair q ship a needs 1;"
                + "pair r ship a needs 1;pair s ship a needs 1;pair t ship a needs 1;lasts 60;").hold(0), -1);
        due(31, "hold(0), 240", Told.of("ship a sails 60;pair p ship a needs 1;pair q ship a needs 1;"
                + "pair r ship a needs 1;pair s ship a needs 1;pair t ship a needs 1;lasts 60;").hold(0), 240);
        due(31, "hold(0), by none", x.hold(0), -1);
    }

    private static void swaps() {
        GoodbyeQuay x = Told.of(THREE);
        due(32, "swap(0)", x.swap(0), 0);
        due(32, "swap(1)", x.swap(1), 1);
        due(32, "swap(2)", x.swap(2), 2);
        due(32, "swap(3)", x.swap(3), -1);
        due(32, "swap(-1)", x.swap(-1), -1);
        x.change(0, 1);
        for (int what = 0; what < 3; what++) {
            due(32, "swap(" + what + "), none better", x.swap(what), -1);
        }
        // p, q, r, with r or q first all is as good: the lesser numbers.
        x = Told.of("ship a sails 4;ship b sails 5;pair p ship b needs 3;pair q ship a needs 2;pair r ship a needs 2;");
        due(32, "swap(0)", x.swap(0), 0);
        due(32, "swap(1)", x.swap(1), 1);
        due(32, "swap(2)", x.swap(2), 2);
        x.change(1, 2);
        due(32, "swap(1), by numbers", x.swap(1), 1);
        x = Told.of("ship a sails 4;pair p ship a needs 3;");
        due(32, "swap(0) of one", x.swap(0), -1);
        // By far the best comes last.
        x = Told.of("ship a sails 3;ship b sails 9;pair p ship a needs 1;pair q ship b needs 6;pair r ship a needs 2;");
        due(32, "swap(0)", x.swap(0), 1);
        due(32, "swap(1)", x.swap(1), 2);
        due(32, "swap(2)", x.swap(2), 3);
    }

    private static void wishes() {
        GoodbyeQuay x = Told.of(THREE);
        for (int p = 0; p < 3; p++) {
            due(33, "wish(" + p + ")", x.wish(p), 0);
        }
        due(33, "wish(3)", x.wish(3), -1);
        due(33, "wish(-1)", x.wish(-1), -1);
        x.minute();
        due(33, "wish(0) at a rail", x.wish(0), -1);
        due(33, "wish(1), none will do", x.wish(1), 0);
        due(33, "wish(2), none will do", x.wish(2), 1);
        // Two rails: the second place is as good as the first, and farther behind.
        x = Told.of("rails 2;ship a sails 50;pair p ship a needs 5;pair q ship a needs 5;pair r ship a needs 5;");
        for (int p = 0; p < 3; p++) {
            due(33, "wish(" + p + ") with two rails", x.wish(p), 1);
        }
        // Places, not pairs.
        x = Told.of("ship a sails 50;pair p ship a needs 5;pair q ship a needs 5;lasts 60-behind*59;");
        x.change(0, 1);
        due(33, "wish(0)", x.wish(0), 0);
        due(33, "wish(1)", x.wish(1), 0);
    }

    private static void trades() {
        GoodbyeQuay x = Told.of(THREE);
        due(34, "trade()", x.trade(), 0);
        lie(34, x, 0, 1, 2);
        x = Told.of("ship a sails 100;pair p ship a needs 30;pair q ship a needs 2;lasts needs*behind;");
        due(33, "wish(0)", x.wish(0), 1);
        due(33, "wish(1)", x.wish(1), 0);
        due(34, "trade()", x.trade(), 1);
        lie(34, x, 1, 0);
        due(34, "nothing is done", x.queue(0), 0);
        x.change(0, 1);
        due(34, "trade() behind that", x.trade(), 0);
        lie(34, x, 1, 0);
        x.giveUp(0);
        due(34, "trade() of one", x.trade(), 0);
        lie(34, x, 1);
        x.giveUp(1);
        due(34, "trade() of nobody", x.trade(), 0);
        lie(34, x);
        // p wishes the last place, r the first, q stays between: then q is left with its own.
        x = Told.of("ship a sails 200;pair p ship a needs 30;pair q ship a needs 2;pair r ship a needs 1;lasts needs*behind*behind;");
        due(33, "wish(0)", x.wish(0), 2);
        due(33, "wish(1)", x.wish(1), 0);
        due(33, "wish(2)", x.wish(2), 0);
        due(34, "trade()", x.trade(), 1);
        lie(34, x, 2, 1, 0);
        // Two rails, and each is quick at one place alone: p at 1, q at 2, r at 0, a round of three.
        x = Told.of("rails 2;ship a sails 99;pair p ship a needs 2 love 1;pair q ship a needs 9 love 0;"
                + "pair r ship a needs 2 love 2;lasts needs*(not behind=love)+1;");
        due(33, "wish(0)", x.wish(0), 1);
        due(33, "wish(1)", x.wish(1), 2);
        due(33, "wish(2)", x.wish(2), 0);
        due(34, "trade()", x.trade(), 1);
        lie(34, x, 2, 0, 1);
    }

    private static void delays() {
        GoodbyeQuay x = Told.of(THREE);
        due(35, "delay(1, 0)", x.delay(1, 0), 60);
        due(35, "delay(2, 0)", x.delay(2, 0), 60);
        due(35, "delay(2, 1)", x.delay(2, 1), 0);
        due(35, "delay(0, 1)", x.delay(0, 1), 0);
        due(35, "delay(0, 0)", x.delay(0, 0), -1);
        due(35, "delay(3, 0)", x.delay(3, 0), -1);
        due(35, "delay(0, 3)", x.delay(0, 3), -1);
        due(35, "delay(-1, 0)", x.delay(-1, 0), -1);
        due(35, "delay(0, -1)", x.delay(0, -1), -1);
        x.minute();
        due(35, "delay(1, 0), the other one at a rail", x.delay(1, 0), -1);
        due(35, "delay(0, 1), one at a rail", x.delay(0, 1), 0);
        x.giveUp(2);
        due(35, "delay(2, 1), one that gave up", x.delay(2, 1), 0);
        x = Told.of("ship a sails 100;pair p ship a needs 4;pair q ship a needs 5;");
        due(35, "delay(1, 0)", x.delay(1, 0), 4);
        x = Told.of("ship a sails 100;pair p ship a needs 1;pair q ship a needs 1;lasts 10-behind*4;");
        due(35, "delay(0, 1), sooner", x.delay(0, 1), -4);
        due(35, "delay(1, 0)", x.delay(1, 0), 6);
        x = Told.of("ship a sails 8;pair p ship a needs 1;pair q ship a needs 1;lasts 10-behind*4;");
        due(35, "delay(0, 1), it would not then", x.delay(0, 1), 0);
    }

    private static void grudges() {
        GoodbyeQuay x = Told.of(THREE);
        due(36, "grudge(0), it says it", x.grudge(0), -1);
        due(36, "grudge(1)", x.grudge(1), 1);
        due(36, "grudge(2)", x.grudge(2), 1);
        due(36, "grudge(3)", x.grudge(3), -1);
        due(36, "grudge(-1)", x.grudge(-1), -1);
        x.giveUp(1);
        due(36, "grudge(1), it gave up", x.grudge(1), -1);
        x = Told.of("ship a sails 9;pair p ship a needs 2;pair q ship a needs 4;pair r ship a needs 5;");
        due(36, "grudge(2), each of two", x.grudge(2), 3);
        x = Told.of("ship a sails 3;pair p ship a needs 2;pair q ship a needs 4;");
        due(36, "grudge(1), nobody", x.grudge(1), 0);
        x.minute();
        due(36, "grudge(0), at a rail", x.grudge(0), -1);
    }

    private static void blames() {
        GoodbyeQuay x = Told.of(THREE);
        int[][] want = {{0, 1}, {1, 2}, {1, 2}};
        for (int p = 0; p < 3; p++) {
            due(37, "blame(" + p + ", 0)", x.blame(p, 0), want[p][0]);
            due(37, "blame(" + p + ", 1)", x.blame(p, 1), want[p][1]);
        }
        due(37, "blame(3, 0)", x.blame(3, 0), -1000);
        due(37, "blame(-1, 0)", x.blame(-1, 0), -1000);
        due(37, "blame(0, 2)", x.blame(0, 2), -1000);
        due(37, "blame(0, -1)", x.blame(0, -1), -1000);
        x.minute();
        due(37, "blame(0, 0) at a rail", x.blame(0, 0), -1000);
        // p lasts so long that both others miss it; alone it misses it, too.
        x = Told.of("ship a sails 9;pair p ship a needs 9;pair q ship a needs 3;pair r ship a needs 3;lasts needs*2-needs/9*9;");
        // Alone: p 9 minutes (18 - 9), q and r 6 each. {p} 1, {q} 1, {r} 1, {p,q} 1, {p,r} 1, {q,r} 1, all 1.
        for (int p = 0; p < 3; p++) {
            due(37, "a third each, above", x.blame(p, 0), 1);
            due(37, "a third each, below", x.blame(p, 1), 3);
        }
        // p says nothing itself and takes from q what it would say: below 0.
        x = Told.of("ship a sails 5;pair p ship a needs 6;pair q ship a needs 3;");
        due(37, "blame below 0, above", x.blame(0, 0), -1);
        due(37, "blame below 0, below", x.blame(0, 1), 2);
        due(37, "blame(1, 0)", x.blame(1, 0), 1);
        due(37, "blame(1, 1)", x.blame(1, 1), 2);
    }

    private static void rooms() {
        GoodbyeQuay x = Told.of(THREE);
        due(38, "room()", x.room(), 5);
        due(39, "lets(0)", x.lets(0), 1);
        due(39, "lets(5)", x.lets(5), 1);
        due(39, "lets(6)", x.lets(6), 0);
        due(39, "lets(60)", x.lets(60), 0);
        due(39, "lets(61)", x.lets(61), -1);
        due(39, "lets(-1)", x.lets(-1), -1);
        x.await(0);
        // p 5, r 6, both by 15.
        due(38, "room()", x.room(), 4);
        x.minute();
        // p is at the rail till 5; then r would need 6 more.
        due(38, "room() from 1 on", x.room(), 4);
        due(39, "lets(4)", x.lets(4), 5);
        due(39, "lets(5)", x.lets(5), 1);
        Told.minutes(x, 4);
        due(39, "lets(5), one has said it", x.lets(5), 1);
        x = Told.of("ship a sails 0;pair p ship a needs 1;");
        due(38, "room(), nobody says it", x.room(), 60);
        x = Told.of("ship a sails 200;pair p ship a needs 1;");
        due(38, "room(), 60 at most", x.room(), 60);
        x = Told.of("rails 2;ship a sails 12;pair p ship a needs 5;pair q ship a needs 2;pair r ship a needs 4;");
        // Each rail is held: q and r would be done n + 6 minutes from now.
        due(38, "room() with two rails", x.room(), 6);
        due(39, "lets(7)", x.lets(7), 3);
        x.minute();
        x.minute();
        // q is done: its rail is free, the other one at 5; r needs 4 by 12.
        due(38, "room() from 2 on", x.room(), 6);
        // By how long it lasts then, more may do where less does not.
        x = Told.of("ship a sails 20;pair p ship a needs 1;lasts (minute>4 and minute<10)*20+1;");
        due(38, "room(), the most", x.room(), 19);
        due(39, "lets(4)", x.lets(4), 1);
        due(39, "lets(5)", x.lets(5), 0);
        due(39, "lets(10)", x.lets(10), 1);
    }

    private static void lasts() {
        GoodbyeQuay x = Told.of("ship a sails 30;ship b sails 240 waits 60;ship c sails 0;pair p ship a needs 4;");
        due(40, "last(0, 7)", x.last(0, 7), 23);
        due(40, "last(0, 11)", x.last(0, 11), 19);
        due(40, "last(0, 30)", x.last(0, 30), 19);
        due(40, "last(0, 1)", x.last(0, 1), 29);
        due(40, "last(0, 0)", x.last(0, 0), -1);
        due(40, "last(0, 31)", x.last(0, 31), -1);
        due(40, "last(3, 1)", x.last(3, 1), -1);
        due(40, "last(-1, 1)", x.last(-1, 1), -1);
        due(40, "last(2, 1), gone", x.last(2, 1), -1);
        due(40, "last(1, 11)", x.last(1, 11), 229);
        x.await(1);
        due(40, "last(1, 11), 240 at the most", x.last(1, 11), 240);
        x.shorten(0);
        x.minute();
        due(40, "last(0, 7) from 1 on", x.last(0, 7), 22);
        Told.minutes(x, 5);
        due(40, "last(0, 7) on an empty quay", x.last(0, 7), 21);
        x = Told.of("ship a sails 10;pair p ship a needs 8;");
        due(40, "last(0, 2)", x.last(0, 2), 8);
        due(40, "last(0, 3)", x.last(0, 3), -1);
        x = Told.of("ship a sails 40;pair p ship a needs 8 love 7;lasts love*5;");
        due(40, "last(0, 2), love 1", x.last(0, 2), 35);
        // Who joins while others queue is behind them: d up to 15 makes the second one's 15 minutes, not 20.
        x = Told.of("ship x sails 50;pair a ship x needs 1;pair b ship x needs 1;lasts 20-behind*5;");
        due(40, "last(0, 1), by behind", x.last(0, 1), 15);
    }

    private static void seconds() {
        GoodbyeQuay x = Told.of(THREE);
        due(41, "second()", x.second(), 3);
        x.minute();
        due(41, "second() from 1 on", x.second(), 3);
        Told.minutes(x, 2);
        due(41, "second() from 3 on", x.second(), 2);
        x = Told.of("rails 2;ship a sails 5;pair p ship a needs 4;pair q ship a needs 4;pair r ship a needs 4;pair s ship a needs 4;");
        due(25, "count() with two rails", x.count(), 2);
        due(41, "second() with two rails", x.second(), 3);
    }

    private static void asides() {
        GoodbyeQuay x = Told.of(THREE);
        due(42, "aside(0)", x.aside(0), 0);
        due(42, "aside(1)", x.aside(1), 2);
        due(42, "aside(2)", x.aside(2), -1);
        due(42, "aside(-1)", x.aside(-1), -1);
        x.change(0, 1);
        // q, p, r: q 3, p 8; without p ahead r is done by 9.
        due(42, "aside(0), of like ones the first", x.aside(0), 0);
        due(42, "aside(1)", x.aside(1), 2);
        x.giveUp(0);
        x.giveUp(1);
        due(42, "aside(0) of one", x.aside(0), 2);
        due(42, "aside(1) of one", x.aside(1), 1);
        x.giveUp(2);
        due(42, "aside(0) of nobody", x.aside(0), -1);
        due(42, "aside(1) of nobody", x.aside(1), -1);
        // The one between goes to the end; the others keep their order.
        x = Told.of("ship a sails 9;ship b sails 5;pair p ship b needs 2;pair q ship a needs 4;pair r ship b needs 3;");
        due(42, "aside(0)", x.aside(0), 1);
        due(42, "aside(1)", x.aside(1), 3);
    }

    private static void nextOnes() {
        GoodbyeQuay x = Told.of("ship a sails 9;ship b sails 4 waits 5;ship c sails 4;pair p ship a needs 30 love 3;"
                + "pair q ship a needs 1 love 5;pair r ship a needs 1 love 5;");
        due(43, "soonest()", x.soonest(), 1);
        due(44, "fondest()", x.fondest(), 1);
        x.await(1);
        due(43, "soonest(), one waits", x.soonest(), 2);
        x.change(1, 2);
        due(44, "fondest(), farther ahead", x.fondest(), 2);
        Told.minutes(x, 4);
        due(43, "soonest(), one is gone", x.soonest(), 0);
        x.giveUp(1);
        x.giveUp(2);
        due(44, "fondest(), nobody", x.fondest(), -1);
        Told.minutes(x, 5);
        due(43, "soonest(), all gone", x.soonest(), -1);
        x = Told.of("ship a sails 9;pair p ship a needs 3 love 0;");
        due(44, "fondest() without love", x.fondest(), 0);
        due(43, "soonest()", x.soonest(), 0);
    }

    private static void laws() {
        GoodbyeQuay x = Told.of(THREE);
        due(47, "law(1)", x.law(1), 3);
        due(47, "law(3)", x.law(3), 2);
        due(47, "law(11)", x.law(11), 1);
        due(47, "law(60)", x.law(60), 1);
        due(47, "law(0)", x.law(0), -1);
        due(47, "law(61)", x.law(61), -1);
        due(47, "law(-5)", x.law(-5), -1);
        due(47, "custom stays", x.about(15), 11);
        x.minute();
        due(47, "law(1) from 1 on: who is at a rail stays", x.law(1), 2);
        x = Told.of("ship a sails 9;pair p ship a needs 1;pair q ship a needs 1;lasts custom*2;");
        due(47, "law(2)", x.law(2), 2);
        due(47, "law(4)", x.law(4), 1);
        due(47, "law(5)", x.law(5), 0);
    }

    private static void odds(int quarrels, int n, int upper, int lower) {
        GoodbyeQuay x = Told.of("draw 500;quarrels " + quarrels + ";");
        due(48, "odds(" + n + ", 0) by " + quarrels, x.odds(n, 0), upper);
        due(48, "odds(" + n + ", 1) by " + quarrels, x.odds(n, 1), lower);
    }

    private static void oddsOfNone() {
        odds(30, 0, 1, 1);
        odds(30, 1, 7, 10);
        odds(30, 2, 49, 100);
        odds(30, 3, 343, 1000);
        odds(30, 4, 2401, 10000);
        odds(0, 4, 1, 1);
        odds(100, 0, 1, 1);
        odds(100, 1, 0, 1);
        odds(100, 4, 0, 1);
        odds(1, 4, 96059601, 100000000);
        odds(50, 3, 1, 8);
        odds(99, 4, 1, 100000000);
        GoodbyeQuay x = Told.of("quarrels 30;");
        due(48, "odds(5, 0)", x.odds(5, 0), -1);
        due(48, "odds(-1, 0)", x.odds(-1, 0), -1);
        due(48, "odds(1, 2)", x.odds(1, 2), -1);
        due(48, "odds(1, -1)", x.odds(1, -1), -1);
    }

    private static void seens() {
        GoodbyeQuay x = Told.of(THREE);
        // Out of the queue: p in minute 0, q and r in minute 5, whatever r needs.
        due(53, "fits(0)", x.fits(0), 30);
        due(50, "seen(61, 0, true)", x.seen(61, 0, true), -1);
        due(50, "seen(-1, 0, true)", x.seen(-1, 0, true), -1);
        due(50, "seen(0, 8, true)", x.seen(0, 8, true), -1);
        due(50, "seen(0, -1, true)", x.seen(0, -1, true), -1);
        due(50, "seen(60, 7, false)", x.seen(60, 7, false), 0);
        due(50, "seen(0, 0, true)", x.seen(0, 0, true), 1);
        due(50, "seen(0, 1, false)", x.seen(0, 1, false), 2);
        due(50, "seen(1, 1, true)", x.seen(1, 1, true), 3);
        due(50, "seen(5, 2, false)", x.seen(5, 2, false), 4);
        due(50, "seen(6, 3, true)", x.seen(6, 3, true), 5);
        due(50, "seen(60, 3, true)", x.seen(60, 3, true), 6);
        due(53, "fits(0)", x.fits(0), 30);
        due(54, "sure(0, 0)", x.sure(0, 0), 1);
        due(54, "sure(1, 0)", x.sure(1, 0), 30);
        due(54, "sure(2, 0)", x.sure(2, 0), -1);
        due(54, "sure(-1, 0)", x.sure(-1, 0), -1);
        due(55, "ask(0, 0)", x.ask(0, 0), 0);
        due(55, "ask(1, 0)", x.ask(1, 0), 30);
        due(55, "ask(2, 0)", x.ask(2, 0), -1);
        due(55, "ask(-1, 0)", x.ask(-1, 0), -1);
        due(58, "what is seen", x.about(10), 7);
        due(52, "later(5)", x.later(5), 5);
        // What is not so: told at 5, untold at 8.
        due(50, "seen(5, 2, true)", x.seen(5, 2, true), 7);
        due(53, "fits(4)", x.fits(4), 30);
        due(53, "fits(5)", x.fits(5), 0);
        due(54, "sure(0, 5)", x.sure(0, 5), -1);
        due(54, "sure(1, 5)", x.sure(1, 5), -1);
        due(55, "ask(0, 5)", x.ask(0, 5), -1);
        due(55, "ask(1, 5)", x.ask(1, 5), -1);
        due(52, "later(3)", x.later(3), 8);
        due(51, "untell(8)", x.untell(8) ? 1 : 0, 0);
        due(51, "untell(-1)", x.untell(-1) ? 1 : 0, 0);
        due(51, "untell(7)", x.untell(7) ? 1 : 0, 1);
        due(51, "untell(7) again", x.untell(7) ? 1 : 0, 0);
        due(53, "fits(7)", x.fits(7), 0);
        due(53, "fits(8)", x.fits(8), 30);
        due(53, "fits(max)", x.fits(Integer.MAX_VALUE), 30);
        due(53, "fits(-1)", x.fits(-1), 30);
        due(53, "fits(min)", x.fits(Integer.MIN_VALUE), 30);
        // Told and untold at one time, it never counts.
        due(50, "seen(6, 3, false)", x.seen(6, 3, false), 8);
        due(53, "fits(8)", x.fits(8), 0);
        x.untell(8);
        due(53, "fits(8)", x.fits(8), 30);
        due(58, "what is seen", x.about(10), 9);
        // Acts do nothing to it: it is of the quay as it was told.
        x.await(0);
        x.change(0, 2);
        x.minute();
        due(53, "fits(8) behind acts", x.fits(8), 30);
        times(x);
        manySeens();
    }

    private static void times(GoodbyeQuay x) {
        due(52, "later(0)", x.later(0), 8);
        due(52, "later(-1)", x.later(-1), -1);
        due(52, "later(1001)", x.later(1001), -1);
        due(52, "later(max)", x.later(Integer.MAX_VALUE), -1);
        due(52, "the time", x.about(11), 8);
        due(52, "later(992)", x.later(992), 1000);
        for (int t = 2000; t <= 100000; t += 1000) {
            due(52, "later(1000)", x.later(1000), t);
        }
        due(52, "later(1) at 100,000", x.later(1), -1);
        due(52, "later(0) at 100,000", x.later(0), 100000);
    }

    private static void manySeens() {
        GoodbyeQuay x = Told.of(THREE);
        for (int i = 0; i < 30; i++) {
            due(50, "seen", x.seen(1, 1, true), i);
            x.untell(i);
        }
        due(50, "a 31st", x.seen(1, 1, true), -1);
        due(58, "what is seen", x.about(10), 30);
        due(51, "untell(30)", x.untell(30) ? 1 : 0, 0);
        x = Told.of("ship a sails 9;");
        due(50, "seen() without pairs", x.seen(0, 0, true), -1);
        due(53, "fits(0) without pairs", x.fits(0), 0);
        due(54, "sure(0, 0) without pairs", x.sure(0, 0), -1);
        due(55, "ask(0, 0) without pairs", x.ask(0, 0), -1);
        // As told: no quarrels, two rails.
        x = Told.of("rails 2;quarrels 100;ship a sails 9;pair p ship a needs 2;pair q ship a needs 2;pair r ship a needs 2;");
        x.seen(1, 2, true);
        x.seen(2, 3, false);
        x.seen(3, 3, true);
        due(53, "fits(0) with two rails", x.fits(0), 30);
    }

    /** Questions change nothing but what lies there. */
    private static void nothingIsDone() {
        GoodbyeQuay x = Told.of(THREE + "quarrels 100;");
        x.minute();
        for (int round = 0; round < 2; round++) {
            x.will(0, 400, 1);
            x.order();
            x.dearest();
            x.trade();
            x.second();
            x.law(1);
            x.room();
            x.lets(9);
            x.hold(0);
            x.last(0, 3);
            x.shortest(0);
            x.spare(0);
            x.aside(0);
            x.blame(1, 0);
            x.grudge(1);
            x.delay(1, 2);
            x.swap(0);
            x.wish(1);
        }
        due(25, "count()", x.count(), 1);
        due(21, "says(0)", x.says(0), 7);
        due(24, "empty()", x.empty(), 9);
        due(7, "queue(0)", x.queue(0), 1);
        due(58, "acts", x.about(8), 1);
        due(58, "seed", x.about(7), 71);
        due(58, "minute", x.about(6), 1);
        due(6, "ship(0, 0)", x.ship(0, 0), 10);
        due(45, "waves", x.waves(), 0);
    }
}
