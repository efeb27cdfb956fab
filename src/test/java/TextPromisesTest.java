/** Promises 1 to 5: a new object, the tape, the text and its faults. */
public final class TextPromisesTest {
    private static int wrong = 0;
    private static final String TWO = "ship a sails 9;pair p ship a needs 2;";

    private static void due(int promise, String what, int got, int want) {
        if (got != want) {
            wrong++;
            System.out.println("promise " + promise + ": " + what + " answered " + got + ", due is " + want);
        }
    }

    private static void fault(String text, int fault, int place) {
        GoodbyeQuay x = new GoodbyeQuay();
        Told.feed(x, text);
        int answer = x.quay();
        due(4, "quay() of " + text, answer < 0 ? -1 : 0, fault == 0 ? 0 : -1);
        due(5, "fault(0) of " + text, x.fault(0), fault);
        due(5, "fault(1) of " + text, x.fault(1), place);
        due(4, "about(12) behind " + text, x.about(12), 0);
    }

    private static void right(String text) {
        fault(text, 0, -1);
    }

    public static void main(String[] args) {
        newObject();
        tape();
        quayIsToldAnew();
        faultStaysTillNextQuay();
        tokens();
        lines();
        names();
        numbers();
        formulas();
        limitsOfFormulas();
        System.out.println(wrong == 0 ? "all answers are as due" : wrong + " answers are not as due");
        if (wrong != 0) {
            System.exit(1);
        }
    }

    private static void newObject() {
        GoodbyeQuay x = new GoodbyeQuay();
        int[] about = {0, 0, 0, 1, 0, 0, 0, 0, 0, 0, 0, 0, 0, 0, 0, 11, 0};
        for (int i = 0; i < about.length; i++) {
            due(1, "about(" + i + ")", x.about(i), about[i]);
        }
        due(1, "NONE", GoodbyeQuay.NONE, -1);
        due(1, "rail(0, 0)", x.rail(0, 0), -1);
        due(1, "rail(0, 1)", x.rail(0, 1), 0);
        due(1, "rail(1, 1)", x.rail(1, 1), -1);
        due(1, "queue(0)", x.queue(0), -1);
        due(1, "minute()", x.minute(), -1);
        due(1, "empty()", x.empty(), 0);
        due(1, "fault(0)", x.fault(0), 0);
        due(1, "fault(1)", x.fault(1), -1);
        due(1, "back(0)", x.back(0), -1);
        due(1, "undo()", x.undo() ? 1 : 0, 0);
        due(1, "redo()", x.redo() ? 1 : 0, 0);
    }

    private static void tape() {
        GoodbyeQuay x = new GoodbyeQuay();
        for (int i = 1; i <= 80; i++) {
            due(2, "feed", x.feed(i, 0, -1, 7, 1 << 31), 20 * i);
        }
        due(2, "feed on a full tape", x.feed(0, 0, 0, 0, 0), -1);
        due(2, "bytes", x.about(12), 1600);
        due(3, "end(1601)", x.end(1601), -1);
        due(3, "end(-1)", x.end(-1), -1);
        due(3, "end(min)", x.end(Integer.MIN_VALUE), -1);
        due(3, "bytes", x.about(12), 1600);
        due(3, "end(1600)", x.end(1600), 1600);
        due(3, "end(1581)", x.end(1581), 1581);
        due(2, "feed with 19 left", x.feed(0, 0, 0, 0, 0), -1);
        due(3, "end(1580)", x.end(1580), 1580);
        due(3, "end(1581) behind end(1580)", x.end(1581), -1);
        due(2, "feed with 20 left", x.feed(0, 0, 0, 0, 0), 1600);
        due(3, "end(0)", x.end(0), 0);
        // "rail" "s 2;": each number's highest byte comes first.
        due(2, "feed", x.feed(0x7261696c, 0x7320323b, 0x20202020, 0x0a200a20, 0x0a0a0a0a), 20);
        due(4, "quay()", x.quay(), 0);
        due(2, "rails", x.about(3), 2);
        due(4, "bytes behind it", x.about(12), 0);
        for (int i = 0; i < 80; i++) {
            x.feed(0x20202020, 0x20202020, 0x20202020, 0x20202020, 0x20202020);
        }
        due(4, "quay() of 1600 blanks", x.quay(), 0);
        due(4, "rails", x.about(3), 1);
    }

    private static void quayIsToldAnew() {
        String text = "ship a sails 9 waits 4;pair p ship a needs 2;pair q ship a needs 3;draw 5;quarrels 7;custom 3;rails 2;";
        GoodbyeQuay x = Told.of(text + "lasts needs;");
        due(4, "units", x.about(13), 1);
        x.minute();
        x.await(0);
        x.image(0);
        x.order();
        x.later(9);
        x.seen(1, 1, true);
        x.minute();
        x.undo();
        Told.feed(x, text);
        due(4, "quay()", x.quay(), 2);
        int[] about = {2, 1, 2, 2, 0, 0, 0, 5, 0, 0, 0, 9, 0, 0, 0, 3, 7};
        for (int i = 0; i < about.length; i++) {
            due(4, "about(" + i + ")", x.about(i), about[i]);
        }
        due(4, "ship(0, 0)", x.ship(0, 0), 9);
        due(4, "ship(0, 2)", x.ship(0, 2), 0);
        due(4, "lies(0)", x.lies(0), -2);
        due(4, "back(0)", x.back(0), -1);
        due(4, "queue(1)", x.queue(1), 1);
        due(4, "rail(0, 0)", x.rail(0, 0), -1);
        due(4, "waves()", x.waves(), 0);
        due(4, "untell(0)", x.untell(0) ? 1 : 0, 0);
        due(4, "length(1): lasts is not told any more", x.length(1), 3);
        due(4, "quay() of nothing", x.quay(), 0);
        due(4, "pairs", x.about(0), 0);
        due(4, "ships", x.about(1), 0);
        due(4, "custom", x.about(15), 11);
        due(4, "rails", x.about(3), 1);
        due(4, "quarrels", x.about(16), 0);
        due(4, "seed", x.about(7), 0);
    }

    private static void faultStaysTillNextQuay() {
        GoodbyeQuay x = Told.of(TWO + "rails 2;custom 4;lasts 7;draw 8;");
        x.minute();
        x.image(1);
        x.order();
        x.seen(3, 1, true);
        Told.feed(x, "ship b sails 1;pair z ship b needs 9 love 9;rails 1;custom 6;lasts 1+1;draw 3;quarrels 9;$");
        due(4, "quay() with a fault", x.quay(), -1);
        int[] about = {1, 1, 0, 2, 0, 0, 1, 167, 1, 0, 1, 0, 0, 1, 0, 4, 0};
        for (int i = 0; i < about.length; i++) {
            due(4, "about(" + i + ") behind a fault", x.about(i), about[i]);
        }
        due(4, "pair(0, 1) behind a fault", x.pair(0, 1), 2);
        due(4, "ship(0, 0) behind a fault", x.ship(0, 0), 9);
        due(4, "rail(0, 1) behind a fault", x.rail(0, 1), 6);
        due(4, "says(0) behind a fault", x.says(0), 6);
        due(4, "back(1) behind a fault", x.back(1), 1);
        due(4, "undo() behind it", x.undo() ? 1 : 0, 0);
        due(5, "fault(0)", x.fault(0), 1);
        due(5, "fault(1)", x.fault(1), 89);
        due(5, "fault(2)", x.fault(2), -1);
        due(5, "fault(-1)", x.fault(-1), -1);
        x.quay();
        due(5, "fault(0) of a right one", x.fault(0), 0);
        due(5, "fault(1) of a right one", x.fault(1), -1);
    }

    private static void tokens() {
        right("");
        right(" \n \n");
        right("ship a sails9 waits\n8;pair p ship a needs1\nlove0;custom1;rails2;quarrels0;draw0;");
        right("ship abcdefgh sails 0009;");
        right("lasts(1)and(2)or not(3);");
        fault("$", 1, 0);
        fault(" \n\t", 1, 2);
        fault("Ship a", 1, 0);
        fault("ship A sails", 1, 5);
        fault("ship \u0000", 1, 5);
        fault("ship \u00e9", 1, 5);
        fault("ship abcdefghi sails 9;", 1, 5);
        fault("custom 12345;", 1, 7);
        fault("custom 00011;", 1, 7);
        fault("custom 5a;", 1, 7);
        fault("custom 99a;", 1, 7);
        fault("ship a sails 9waits 8;", 1, 13);
        fault("lasts 5and 5;", 1, 6);
        fault("custom 99;$", 4, 7);
        fault("customs 5;", 2, 0);
        fault("custo m 5;", 2, 0);
        fault("lasts 1,2;", 1, 7);
        fault("rails 1;\u007f", 1, 8);
    }

    private static void lines() {
        fault("ship", 2, 4);
        fault("ship  ", 2, 6);
        fault("ship a", 2, 6);
        fault("ship a sails", 2, 12);
        fault("ship a sails 5", 2, 14);
        fault("ship a sails 5 waits", 2, 20);
        fault("ship a sails 5 waits 5", 2, 22);
        fault("ship a sails 5 waits 5 waits 5;", 2, 23);
        fault("ship a waits 5 sails 5;", 2, 7);
        fault("ship a sails a;", 2, 13);
        fault("ship 5", 2, 5);
        fault(TWO + "pair", 2, TWO.length() + 4);
        fault("ship a sails 9;pair p needs 2 ship a;", 2, 22);
        fault("ship a sails 9;pair p ship a love 2 needs 2;", 2, 29);
        fault("ship a sails 9;pair p ship a needs 2 love;", 2, 41);
        fault("ship a sails 9;pair p ship a;", 2, 28);
        fault("ship a sails 9;pair p ship;", 2, 26);
        fault(";", 2, 0);
        fault("5", 2, 0);
        fault("sails 5;", 2, 0);
        fault("custom 5", 2, 8);
        fault("custom;", 2, 6);
        fault("custom 5 5;", 2, 9);
        fault("rails 1;;", 2, 8);
        for (String sort : new String[] {"custom", "rails", "lasts", "quarrels", "draw"}) {
            right(sort + " 1;");
            fault(sort + " 1;draw", 2, sort.length() + (sort.equals("draw") ? 3 : 7));
            fault(sort + " 1;" + sort + " 1;", 2, sort.length() + 3);
            fault(sort + " 1;\n" + sort + " 999", 2, sort.length() + 4);
        }
        StringBuilder five = new StringBuilder();
        for (char c = 'a'; c <= 'e'; c++) {
            five.append("ship ").append(c).append(" sails 9;");
        }
        right(five.toString());
        fault(five + "ship f sails 9;", 2, five.length());
        fault(five + "ship a", 2, five.length());
        StringBuilder seven = new StringBuilder(five);
        for (char c = 'a'; c <= 'g'; c++) {
            seven.append("pair ").append(c).append(" ship a needs 9;");
        }
        right(seven.toString());
        fault(seven + " pair h ship a needs 9;", 2, seven.length() + 1);
        fault(seven + "pair a", 2, seven.length());
    }

    private static void names() {
        String[] own = {"ship", "sails", "waits", "pair", "needs", "love", "custom", "rails", "lasts", "quarrels", "draw",
            "or", "and", "not", "behind", "left", "minute"};
        for (String word : own) {
            fault("ship " + word + " sails 9;", 2, 5);
            fault("ship a sails 9;pair " + word + " ship a needs 1;", 2, 20);
            fault("ship a sails 9;pair p ship " + word + " needs 1;", 2, 27);
            right("ship x" + word.substring(1) + " sails 9;");
        }
        for (String word : new String[] {"be", "hind", "nots", "mi", "told", "shi", "andor", "quarrel", "saysit"}) {
            right("ship " + word + " sails 9;pair " + word + " ship " + word + " needs 1;");
        }
        fault("ship a sails 9;ship a sails 8;", 3, 20);
        right("ship a sails 9;ship aa sails 8;");
        right("ship a sails 9;pair a ship a needs 1;");
        fault("ship a sails 9;pair p ship a needs 1;pair p ship a needs 1;", 3, 42);
        fault("ship a sails 9;pair p ship b needs 1;", 5, 27);
        fault("pair p ship b needs 1;ship b sails 9;", 5, 12);
        fault("ship a sails 9;pair p ship p needs 1;", 5, 27);
        fault("ship abcdefgh sails 9;pair p ship abcdefgi needs 1;", 5, 34);
    }

    private static void numbers() {
        right("ship a sails 0;");
        right("ship a sails 240 waits 60;");
        right("ship a sails 1 waits 0;");
        fault("ship a sails 241;", 4, 13);
        fault("ship a sails 9999 $", 4, 13);
        fault("ship a sails 1 waits 61;", 4, 21);
        right("ship a sails 1;pair p ship a needs 30 love 20;");
        right("ship a sails 1;pair p ship a needs 1 love 0;");
        fault("ship a sails 1;pair p ship a needs 0;", 4, 35);
        fault("ship a sails 1;pair p ship a needs 31;", 4, 35);
        fault("ship a sails 1;pair p ship a needs 1 love 21;", 4, 42);
        right("custom 60;rails 1;quarrels 100;draw 999;");
        fault("custom 0;", 4, 7);
        fault("custom 61;", 4, 7);
        fault("rails 0;", 4, 6);
        fault("rails 3;", 4, 6);
        fault("quarrels 101;", 4, 9);
        fault("draw 1000;", 4, 5);
        right("lasts 9999;");
    }

    private static void formulas() {
        right("lasts needs+love-custom*behind/left%minute;");
        right("lasts not not 1<2 and 3>4 or not 5=6;");
        right("lasts ((1 or 0) and (2<3))*4=4;");
        fault("lasts ;", 2, 6);
        fault("lasts", 2, 5);
        fault("lasts 1", 2, 7);
        fault("lasts 1 2;", 2, 8);
        fault("lasts a;", 2, 6);
        fault("lasts ship;", 2, 6);
        fault("lasts waits;", 2, 6);
        fault("lasts sails;", 2, 6);
        fault("lasts +1;", 2, 6);
        fault("lasts -1;", 2, 6);
        fault("lasts 1+;", 2, 8);
        fault("lasts 1+not 2;", 2, 8);
        fault("lasts 1*(2;", 2, 10);
        fault("lasts 1);", 2, 7);
        fault("lasts ();", 2, 7);
        fault("lasts not;", 2, 9);
        fault("lasts 1 or;", 2, 10);
        fault("lasts 1 and or 2;", 2, 12);
        fault("lasts 1<2<3;", 2, 9);
        fault("lasts 1<2=3;", 2, 9);
        fault("lasts 1<not 2;", 2, 8);
        fault("lasts 1<=2;", 2, 8);
        fault("lasts (1<2)<3", 2, 13);
        fault("lasts 1 not 2;", 2, 8);
    }

    private static void limitsOfFormulas() {
        String thirty = "lasts 1" + "+1".repeat(29);
        right(thirty + ";");
        fault(thirty + "+1;", 2, thirty.length() + 1);
        fault(thirty + "+(1);", 2, thirty.length() + 1);
        fault(thirty + "+$", 1, thirty.length() + 1);
        // ( e ) is a unit, too.
        right("lasts (1)" + "+1".repeat(28) + ";");
        fault("lasts (1)" + "+1".repeat(28) + "+1;", 2, 6 + 3 + 56 + 1);
        GoodbyeQuay x = Told.of("lasts ((needs)+2)*not1;");
        due(5, "no name in a formula", x.fault(1), 18);
        x = Told.of("lasts ((needs)+2)*3<left;");
        due(4, "units", x.about(13), 6);
        right("lasts (((((((1)))))));");
        fault("lasts ((((((((1))))))));", 2, 13);
        right("lasts not not not not not not not 1;");
        fault("lasts not not not not not not not not 1;", 2, 34);
        right("lasts not not not (((( 1 ))));");
        fault("lasts not not not (((( not 1 ))));", 2, 23);
        fault("lasts not not not ((((( 1 )))));", 2, 22);
        fault("lasts (((((((not 1)))))));", 2, 13);
        right("lasts (((((((1)))))))+(((((((1))))))) and not not not not not not not 1;");
        StringBuilder nots = new StringBuilder("lasts not not not not not not not 1");
        for (int i = 0; i < 29; i++) {
            nots.append(" and not not not not not not not 1");
        }
        right(nots + ";");
        GoodbyeQuay long1 = Told.of("ship a sails 9;pair p ship a needs 1;" + nots + ";");
        due(10, "length(0)", long1.length(0), 1);
        fault(nots + " and not 1;", 2, nots.length() + 9);
    }
}
