/** A full quay: five ships, seven pairs, thirty units, and each call on it. */
public final class FullQuayTest {
    private static int wrong = 0;

    /** Each of the first six has time enough; the last one needs 7 minutes from 21 on, its ship sails at 27. */
    private static final String SEVEN = "ship far sails 200;ship b sails 27 waits 1;ship c sails 240;ship d sails 0;ship e sails 1;"
            + "pair a ship far needs 1;pair b ship far needs 2;pair c ship far needs 3;pair d ship far needs 4;"
            + "pair e ship far needs 5;pair f ship far needs 6;pair g ship b needs 7;";

    private static void due(String call, int got, int want) {
        if (got != want) {
            wrong++;
            System.out.println(call + " answered " + got + ", due is " + want);
        }
    }

    private static void lie(GoodbyeQuay x, int... want) {
        for (int i = 0; i < want.length; i++) {
            due("lies(" + i + ")", x.lies(i), want[i]);
        }
        due("about(14)", x.about(14), want.length);
        due("lies(7)", x.lies(7), -2);
    }

    public static void main(String[] args) {
        whatWillBe(Told.of(SEVEN));
        whatWouldBeBetter(Told.of(SEVEN));
        whoHoldsUpWhom(Told.of(SEVEN));
        eachPlace(Told.of(SEVEN));
        acts(Told.of(SEVEN));
        thirtyUnits();
        twoRails();
        whatIsSeen(Told.of(SEVEN));
        System.out.println(wrong == 0 ? "all answers are as due" : wrong + " answers are not as due");
        if (wrong != 0) {
            System.exit(1);
        }
    }

    private static void whatWillBe(GoodbyeQuay x) {
        int[] says = {1, 3, 6, 10, 15, 21, -1, -1};
        int[] steps = {0, 1, 3, 6, 10, 15, 21, -1};
        for (int p = 0; p < 8; p++) {
            due("says(" + p + ")", x.says(p), says[p]);
            due("steps(" + p + ")", x.steps(p), steps[p]);
        }
        due("will(6, 21, 0)", x.will(6, 21, 0), 0);
        due("will(6, 22, 0)", x.will(6, 22, 0), 1);
        due("will(6, 26, 0)", x.will(6, 26, 0), 1);
        due("will(6, 27, 0)", x.will(6, 27, 0), 3);
        due("missing()", x.missing(), 64);
        due("empty()", x.empty(), 27);
        due("count()", x.count(), 6);
        due("love()", x.love(), 6);
        due("litter()", x.litter(), 1);
        due("room()", x.room(), 60);
        due("lets(60)", x.lets(60), 63);
        due("last(0, 7)", x.last(0, 7), 193);
        due("last(4, 1)", x.last(4, 1), -1);
        due("second()", x.second(), 7);
        due("law(6)", x.law(6), 7);
        due("law(7)", x.law(7), 6);
        due("ship(4, 3)", x.ship(4, 3), 0);
        due("soonest()", x.soonest(), 4);
        due("fondest()", x.fondest(), 0);
    }

    private static void whatWouldBeBetter(GoodbyeQuay x) {
        due("order()", x.order(), 7);
        lie(x, 0, 1, 2, 3, 4, 6, 5);
        due("dearest()", x.dearest(), 7);
        lie(x, 0, 1, 2, 3, 4, 6, 5);
        due("shortest(0)", x.shortest(0), 1);
        due("shortest(1)", x.shortest(1), 2);
        due("spare(0)", x.spare(0), 1);
        due("spare(1)", x.spare(1), 1);
        due("hold(0)", x.hold(0), 0);
        due("hold(1)", x.hold(1), 1);
        due("hold(3)", x.hold(3), -1);
        due("hold(4)", x.hold(4), 0);
        due("swap(0)", x.swap(0), 0);
        due("swap(1)", x.swap(1), 6);
        due("swap(2)", x.swap(2), 7);
        due("aside(0)", x.aside(0), 0);
        due("aside(1)", x.aside(1), 7);
    }

    private static void whoHoldsUpWhom(GoodbyeQuay x) {
        for (int p = 0; p < 7; p++) {
            // Whoever is the last of seven to join adds none.
            due("blame(" + p + ", 0)", x.blame(p, 0), 6);
            due("blame(" + p + ", 1)", x.blame(p, 1), 7);
            due("grudge(" + p + ")", x.grudge(p), p == 6 ? 63 : -1);
            due("delay(6, " + p + ")", x.delay(6, p), p == 6 ? -1 : 60);
            due("delay(5, " + p + ")", x.delay(5, p), p == 5 ? -1 : p == 6 ? 0 : p + 1);
        }
    }

    private static void eachPlace(GoodbyeQuay x) {
        for (int p = 0; p < 7; p++) {
            due("wish(" + p + ")", x.wish(p), 0);
            due("queue(" + p + ")", x.queue(p), p);
            due("length(" + p + ")", x.length(p), p + 1);
        }
        due("queue(7)", x.queue(7), -1);
        due("trade()", x.trade(), 0);
        lie(x, 0, 1, 2, 3, 4, 5, 6);
        // The last one is quick at the first place alone, the first one at the last: they change, the others stay.
        GoodbyeQuay y = Told.of("rails 2;ship a sails 240;pair a ship a needs 9 love 0;pair b ship a needs 1 love 5;"
                + "pair c ship a needs 1 love 4;pair d ship a needs 1 love 3;pair e ship a needs 1 love 2;"
                + "pair f ship a needs 1 love 1;pair g ship a needs 9 love 6;lasts (not behind=love)*(needs*6)+1;");
        due("wish(6)", y.wish(6), 0);
        due("wish(0)", y.wish(0), 6);
        due("trade()", y.trade(), 1);
        lie(y, 6, 1, 2, 3, 4, 5, 0);
    }

    private static void acts(GoodbyeQuay x) {
        due("change(6, 0)", x.change(6, 0), 7);
        due("queue(0)", x.queue(0), 6);
        due("queue(6)", x.queue(6), 0);
        x.undo();
        for (int p = 0; p < 7; p++) {
            due("shorten(" + p + ")", x.shorten(p), p == 0 ? 1 : (p + 1) / 2);
        }
        due("shortest(0)", x.shortest(0), 0);
        for (int p = 6; p >= 0; p--) {
            due("giveUp(" + p + ")", x.giveUp(p), p);
        }
        due("minute()", x.minute(), -1);
        due("image(1)", x.image(1), 0);
        for (int p = 6; p >= 0; p--) {
            due("join(" + p + ")", x.join(p), 6 - p);
        }
        for (int p = 0; p < 7; p++) {
            due("join(" + p + ") again", x.join(p), -1);
            due("queue(" + p + ")", x.queue(p), 6 - p);
        }
        due("image(0)", x.image(0), 0);
        due("back(1)", x.back(1), 0);
        due("queue(0)", x.queue(0), -1);
        due("back(0)", x.back(0), 0);
        for (int p = 0; p < 7; p++) {
            due("pair(" + p + ", 4)", x.pair(p, 4), 6 - p);
            due("pair(" + p + ", 5)", x.pair(p, 5), 1);
        }
        int[] ends = {0, 0, 64, 0, 0, 32, 0, 16, 0, 8, 4, 2, 1};
        for (int i = 0; i < ends.length; i++) {
            due("minute() " + i, x.minute(), ends[i]);
        }
        due("about(4)", x.about(4), 127);
        due("minute() at the end", x.minute(), -1);
    }

    private static void thirtyUnits() {
        // The lesser one of needs and custom, and eleven times love less love, which is 0.
        String text = SEVEN + "lasts needs*(needs<custom)+custom*(not needs<custom)" + "+love-love".repeat(11) + ";";
        GoodbyeQuay x = Told.of(text);
        due("about(13)", x.about(13), 30);
        due("about(0)", x.about(0), 7);
        whatWillBe(x);
        whatWouldBeBetter(x);
        whoHoldsUpWhom(Told.of(text));
    }

    private static void twoRails() {
        GoodbyeQuay x = Told.of("rails 2;" + SEVEN);
        // 1, 2 / 3 from 1, 4 from 2 / 5 from 4, 6 from 6 / 7 from 9 till 16.
        int[] says = {1, 2, 4, 6, 9, 12, 16};
        for (int p = 0; p < 7; p++) {
            due("says(" + p + "), two rails", x.says(p), says[p]);
        }
        due("empty(), two rails", x.empty(), 16);
        due("order(), two rails", x.order(), 7);
        lie(x, 0, 1, 2, 3, 4, 5, 6);
        // 1, 2, 3 / 4 from 1, 5 from 2, 6 from 3 / 7 from 5.
        due("second(), three rails", x.second(), 7);
        // Held till 11, the last one is done by 27; held a minute more, it is not.
        due("room(), two rails", x.room(), 11);
        due("lets(11)", x.lets(11), 127);
        due("lets(12)", x.lets(12), 63);
        for (int i = 0; i < 16; i++) {
            due("minute() " + i + ", two rails", Integer.bitCount(x.minute()), i == 0 || i == 1 || i == 3 || i == 5 || i == 8
                    || i == 11 || i == 15 ? 1 : 0);
        }
        due("waves()", x.waves(), 0);
    }

    private static void whatIsSeen(GoodbyeQuay x) {
        due("seen(21, 7, false)", x.seen(21, 7, false), 0);
        due("seen(22, 7, true)", x.seen(22, 7, true), 1);
        due("seen(21, 6, true)", x.seen(21, 6, true), 2);
        due("fits(0)", x.fits(0), 30);
        due("ask(0, 0)", x.ask(0, 0), 0);
        due("ask(1, 0)", x.ask(1, 0), 30);
        due("seen(21, 7, true)", x.seen(21, 7, true), 3);
        due("fits(0)", x.fits(0), 0);
    }
}
