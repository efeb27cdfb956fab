import java.io.IOException;

/** The first paragraph of the document's Terms, sentence by sentence: the text, its tokens, its limits, its faults. */
public final class TermsTextTest {
    private static final int HERE = 101;
    private static final String SHIP = "ship a sails 9;";
    private static final String[] OWN_WORDS = {"ship", "sails", "waits", "pair", "needs", "love", "custom", "rails",
        "lasts", "quarrels", "draw", "or", "and", "not", "behind", "left", "minute"};

    public static void main(String[] args) throws IOException {
        textIsAtMost1600Bytes();
        lines();
        formulas();
        wordsAndNumbers();
        signsAndBlanks();
        howTokensAreParted();
        namesAreNoOwnWords();
        ships();
        pairs();
        numberedAsTold();
        onceEach();
        units();
        depth();
        faultsByPlace();
        faultsOfEachKind();
        Sentence.finish(HERE, HERE);
    }

    private static String blanks(int many) {
        return " ".repeat(many);
    }

    private static void textIsAtMost1600Bytes() {
        Sentence.of(HERE, "A QUAY is a text of at most 1,600 bytes (empty at first)");
        Sentence.due("quay() at first", new GoodbyeQuay().quay(), 0);
        Sentence.right("");
        GoodbyeQuay x = Told.of(blanks(1592) + "rails 2;");
        Sentence.due("fault(0), the line's end is byte 1599", x.fault(0), 0);
        Sentence.due("rails of a full text", x.about(3), 2);
        Sentence.fault(blanks(1592) + "rails 2", 2, 1599);
        Sentence.fault(blanks(1592) + "rails 22", 4, 1598);
        Sentence.fault(blanks(1599) + ";", 2, 1599);
        Sentence.right(blanks(1600));

        Sentence.of(HERE, "quay = {line}.");
        Sentence.right("", "custom 1;", "custom 1;rails 1;", "rails 1;custom 1;");
        Sentence.fault(";", 2, 0);
        Sentence.fault("custom 1;;", 2, 9);
        Sentence.fault("custom 1 rails 1;", 2, 9);
    }

    /** Cut behind any of its tokens but the last one, a line has fault 2 at the text's end. */
    private static void cutEverywhere(String before, String line) {
        String[] tokens = line.split(" ");
        StringBuilder text = new StringBuilder(before);
        for (int i = 0; i < tokens.length; i++) {
            text.append(i == 0 ? "" : " ").append(tokens[i]);
            boolean whole = i == tokens.length - 1;
            Sentence.fault(text.toString(), whole ? 0 : 2, whole ? -1 : text.length());
        }
    }

    private static void lines() {
        Sentence.of(HERE, "line = ship NAME sails N [waits N] ;");
        cutEverywhere("", "ship a sails 9 ;");
        cutEverywhere("", "ship a sails 9 waits 8 ;");
        Sentence.fault("ship a waits 8;", 2, 7);
        Sentence.fault("ship a sails 9 waits 8 waits 7;", 2, 23);
        Sentence.fault("ship a sails 9 sails 8;", 2, 15);

        Sentence.of(HERE, "| pair NAME ship NAME needs N [love N] ;");
        cutEverywhere(SHIP, "pair p ship a needs 2 ;");
        cutEverywhere(SHIP, "pair p ship a needs 2 love 3 ;");
        Sentence.fault(SHIP + "pair p ship a love 3 needs 2;", 2, 29);
        Sentence.fault(SHIP + "pair p ship a needs 2 love 3 love 4;", 2, 44);
        Sentence.fault(SHIP + "pair p needs 2 ship a;", 2, 22);

        Sentence.of(HERE, "| custom N ; | rails N ; | lasts e ; | quarrels N ; | draw N ;.");
        for (String word : new String[] {"custom", "rails", "lasts", "quarrels", "draw"}) {
            cutEverywhere("", word + " 1 ;");
            Sentence.fault(word + " 1 1;", 2, word.length() + 3);
            Sentence.fault(word + " ;", 2, word.length() + 1);
            Sentence.fault(word + " a;", 2, word.length() + 1);
        }
        for (String word : new String[] {"custom", "rails", "quarrels", "draw"}) {
            Sentence.fault(word + " (1);", 2, word.length() + 1);
            Sentence.fault(word + " 1+1;", 2, word.length() + 2);
        }
    }

    private static void formulas() {
        Sentence.of(HERE, "e = both {or both}.");
        cutEverywhere("", "lasts 1 or 2 or 3 ;");
        Sentence.fault("lasts or 1;", 2, 6);
        Sentence.of(HERE, "both = one {and one}.");
        cutEverywhere("", "lasts 1 and 2 and 3 ;".replace("and 2", "and not 2"));
        Sentence.fault("lasts and 1;", 2, 6);
        Sentence.fault("lasts 1 and or 1;", 2, 12);
        Sentence.of(HERE, "one = not one | sum [(< | > | =) sum].");
        cutEverywhere("", "lasts not not 1 < 2 ;");
        cutEverywhere("", "lasts 1 > 2 ;");
        cutEverywhere("", "lasts 1 = 2 ;");
        Sentence.fault("lasts 1<2<3;", 2, 9);
        Sentence.fault("lasts 1=2>3;", 2, 9);
        Sentence.fault("lasts 1<not 2;", 2, 8);
        Sentence.fault("lasts 1<>2;", 2, 8);
        Sentence.right("lasts (1<2)<3;", "lasts 1<(2<3);", "lasts not 1<2;");
        Sentence.of(HERE, "sum = term {(+ | -) term}.");
        cutEverywhere("", "lasts 1 + 2 - 3 ;");
        Sentence.fault("lasts -1;", 2, 6);
        Sentence.fault("lasts +1;", 2, 6);
        Sentence.fault("lasts 1+-1;", 2, 8);
        Sentence.fault("lasts 1+not 1;", 2, 8);
        Sentence.of(HERE, "term = unit {(* | / | %) unit}.");
        cutEverywhere("", "lasts 1 * 2 / 3 % 4 ;");
        Sentence.fault("lasts *1;", 2, 6);
        Sentence.fault("lasts 1*not 1;", 2, 8);
        Sentence.of(HERE, "unit = N | needs | love | custom | behind | left | minute | ( e ).");
        for (String unit : new String[] {"0", "9999", "needs", "love", "custom", "behind", "left", "minute", "( 1 or 2 )"}) {
            cutEverywhere("", "lasts " + unit + " ;");
        }
        Sentence.fault("lasts ();", 2, 7);
        Sentence.fault("lasts (1;", 2, 8);
        Sentence.fault("lasts 1);", 2, 7);
        for (String word : new String[] {"ship", "pair", "sails", "waits", "rails", "lasts", "quarrels", "draw", "x"}) {
            Sentence.fault("lasts " + word + ";", 2, 6);
        }
    }

    private static void wordsAndNumbers() {
        Sentence.of(HERE, "TOKENS: words (a .. z, 8 at most)");
        Sentence.right("ship a sails 1;ship z sails 1;", "ship abcdefgh sails 1;", "ship zzzzzzzz sails 1;");
        Sentence.fault("ship abcdefghi sails 1;", 1, 5);
        Sentence.fault("quarrelss 1;", 1, 0);
        Sentence.fault("ship " + "z".repeat(300), 1, 5);
        Sentence.fault("ship A sails 1;", 1, 5);
        Sentence.fault("ship Z sails 1;", 1, 5);
        Sentence.fault("ship ` sails 1;", 1, 5);
        Sentence.fault("ship { sails 1;", 1, 5);
        Sentence.fault("ship aB sails 1;", 1, 6);
        // Eight letters are eight: the last one tells two names apart.
        Sentence.right("ship aaaaaaaa sails 1;ship aaaaaaab sails 1;ship aaaaaaa sails 1;");

        Sentence.of(HERE, "N (1 to 4 digits)");
        Sentence.right("custom 1;", "custom 01;", "custom 001;", "custom 0060;", "lasts 0000;", "lasts 9999;");
        Sentence.fault("custom 00001;", 1, 7);
        Sentence.fault("lasts 10000;", 1, 6);
        Sentence.fault("lasts " + "1".repeat(300), 1, 6);
        Sentence.fault("custom :;", 1, 7);
        Sentence.fault("custom 1:;", 1, 8);
    }

    private static void signsAndBlanks() {
        Sentence.of(HERE, "signs ; ( ) < > = + - * / %");
        for (int c = 0; c < 256; c++) {
            boolean word = c >= 'a' && c <= 'z' || c >= '0' && c <= '9';
            boolean token = word || ";()<>=+-*/%".indexOf(c) >= 0;
            boolean blank = c == 32 || c == 10;
            Sentence.fault(String.valueOf((char) c), blank ? 0 : token ? 2 : 1, blank ? -1 : 0);
        }
        Sentence.fault("lasts 1,2;", 1, 7);
        Sentence.fault("lasts 1 !2;", 1, 8);

        Sentence.of(HERE, "blanks (32, 10) part them or not");
        Sentence.right("custom 5;", "custom\n5;", "custom5;", " \n custom \n\n 5 \n ; \n ");
        for (int c : new int[] {0, 9, 11, 12, 13, 31, 33, 133, 160, 255}) {
            Sentence.fault("custom" + (char) c + "5;", 1, 6);
        }
        Sentence.fault("custom 5;\t", 1, 9);
        Sentence.fault("cus tom 5;", 2, 0);
        Sentence.fault("custom 6 0;", 2, 9);
    }

    private static void howTokensAreParted() {
        Sentence.of(HERE, "each is as long as can be");
        Sentence.fault("shipa sails 1;", 2, 0);
        Sentence.fault("ship asails 1;", 2, 12);
        Sentence.fault("rails 12;", 4, 6);
        Sentence.right("rails1;custom12;", "lasts(1)or(2)and(3);", SHIP + "pair p ship a needs1 love2;");
        Sentence.fault("lasts 1 ornot 2;", 2, 8);
        Sentence.right("lasts 1 or not2;");

        Sentence.of(HERE, "no letter directly behind an N.");
        Sentence.fault("ship a sails 9waits 1;", 1, 13);
        Sentence.right("ship a sails 9 waits 1;", "ship a sails 9\nwaits 1;");
        Sentence.fault("lasts 1or 2;", 1, 6);
        Sentence.fault("lasts 1234a;", 1, 6);
        Sentence.fault("custom 5a", 1, 7);
        Sentence.fault("custom 5z", 1, 7);
        Sentence.fault("custom 5A", 1, 8);
    }

    private static void namesAreNoOwnWords() {
        Sentence.of(HERE, "Words that stand for themselves here are no NAMES.");
        for (String word : OWN_WORDS) {
            Sentence.fault("ship " + word + " sails 1;", 2, 5);
            Sentence.fault(SHIP + "pair " + word + " ship a needs 1;", 2, 20);
            Sentence.fault(SHIP + "pair p ship " + word + " needs 1;", 2, 27);
            String shorter = word.substring(1);
            Sentence.right("ship " + shorter + " sails 1;pair " + shorter + " ship " + shorter + " needs 1;");
        }
        // Words that stand for others here are NAMES.
        for (String word : new String[] {"quay", "line", "e", "both", "one", "sum", "term", "unit"}) {
            Sentence.right("ship " + word + " sails 1;pair " + word + " ship " + word + " needs 1;");
        }
    }

    private static String manyShips(int many) {
        StringBuilder b = new StringBuilder();
        for (int i = 0; i < many; i++) {
            b.append("ship ").append((char) ('a' + i)).append(" sails ").append(i + 1).append(";");
        }
        return b.toString();
    }

    private static String manyPairs(int many) {
        StringBuilder b = new StringBuilder();
        for (int i = 0; i < many; i++) {
            b.append("pair ").append((char) ('a' + i)).append(" ship a needs ").append(i + 1).append(";");
        }
        return b.toString();
    }

    private static void ships() {
        Sentence.of(HERE, "At most 5 SHIPS");
        Sentence.due("ships of none", Told.of("").about(1), 0);
        Sentence.due("ships of five", Told.of(manyShips(5)).about(1), 5);
        Sentence.fault(manyShips(6), 2, manyShips(5).length());
        Sentence.due("ships that stay behind six", Told.of(manyShips(6)).about(1), 0);
        Sentence.of(HERE, "sails 0 .. 240");
        Sentence.range("ship a sails ", 0, 240, ";");
        Sentence.due("sails 0", Told.of("ship a sails 0;").ship(0, 0), 0);
        Sentence.due("sails 240", Told.of("ship a sails 240;").ship(0, 0), 240);
        Sentence.of(HERE, "waits 0 .. 60");
        Sentence.range("ship a sails 1 waits ", 0, 60, ";");
        Sentence.due("waits 60", Told.of("ship a sails 1 waits 60;").ship(0, 1), 60);
        Sentence.of(HERE, ", 0 if not told");
        Sentence.due("waits, not told", Told.of("ship a sails 1;").ship(0, 1), 0);
        GoodbyeQuay x = Told.of("ship a sails 1 waits 7;");
        for (int i = 0; i < 3; i++) {
            Told.feed(x, "ship a sails 1;");
            x.quay();
            Sentence.due("waits, not told any more", x.ship(0, 1), 0);
        }
    }

    private static void pairs() {
        Sentence.of(HERE, "7 PAIRS");
        String five = manyShips(5);
        Sentence.due("quay() of none", Told.of(five).about(0), 0);
        Sentence.due("quay() of seven", Told.of(five + manyPairs(7)).about(0), 7);
        Sentence.fault(five + manyPairs(8), 2, (five + manyPairs(7)).length());
        Sentence.of(HERE, "of a SHIP told ahead");
        Sentence.right(SHIP + "pair p ship a needs 1;");
        Sentence.fault("pair p ship a needs 1;" + SHIP, 5, 12);
        Sentence.of(HERE, "needs 1 .. 30");
        Sentence.range(SHIP + "pair p ship a needs ", 1, 30, ";");
        Sentence.due("needs 30", Told.of(SHIP + "pair p ship a needs 30;").pair(0, 1), 30);
        Sentence.of(HERE, "love 0 .. 20");
        Sentence.range(SHIP + "pair p ship a needs 1 love ", 0, 20, ";");
        Sentence.due("love 0", Told.of(SHIP + "pair p ship a needs 1 love 0;").pair(0, 2), 0);
        Sentence.due("love 20", Told.of(SHIP + "pair p ship a needs 1 love 20;").pair(0, 2), 20);
        Sentence.of(HERE, ", 1 if not told");
        Sentence.due("love, not told", Told.of(SHIP + "pair p ship a needs 1;").pair(0, 2), 1);
        GoodbyeQuay x = Told.of(SHIP + "pair p ship a needs 1 love 7;");
        for (int i = 0; i < 3; i++) {
            Told.feed(x, SHIP + "pair p ship a needs 1;");
            x.quay();
            Sentence.due("love, not told any more", x.pair(0, 2), 1);
        }
    }

    private static void numberedAsTold() {
        Sentence.of(HERE, "numbered as told, each sort by itself");
        GoodbyeQuay x = Told.of("ship b sails 9;pair z ship b needs 3;ship a sails 8;pair a ship a needs 4;"
                + "custom 7;pair m ship b needs 5;");
        Sentence.due("ship(0, 0)", x.ship(0, 0), 9);
        Sentence.due("ship(1, 0)", x.ship(1, 0), 8);
        Sentence.due("ship(2, 0)", x.ship(2, 0), -1);
        Sentence.due("pair(0, 1)", x.pair(0, 1), 3);
        Sentence.due("pair(1, 1)", x.pair(1, 1), 4);
        Sentence.due("pair(2, 1)", x.pair(2, 1), 5);
        Sentence.due("pair(1, 0)", x.pair(1, 0), 1);
        Sentence.due("pair(2, 0)", x.pair(2, 0), 0);
        Sentence.due("pair(3, 1)", x.pair(3, 1), -1);
    }

    private static void onceEach() {
        Sentence.of(HERE, "custom (1 .. 60; 11), rails (1 .. 2; 1)");
        Sentence.range("custom ", 1, 60, ";");
        Sentence.range("rails ", 1, 2, ";");
        GoodbyeQuay x = Told.of("custom 60;rails 2;");
        Sentence.due("custom 60", x.about(15), 60);
        Sentence.due("rails 2", x.about(3), 2);
        for (int i = 0; i < 3; i++) {
            x.quay();
            Sentence.due("custom, not told", x.about(15), 11);
            Sentence.due("rails, not told", x.about(3), 1);
        }
        Sentence.of(HERE, "lasts, quarrels (0 .. 100 of 100; 0), draw (0 .. 999; 0) once each");
        Sentence.range("quarrels ", 0, 100, ";");
        Sentence.range("draw ", 0, 999, ";");
        x = Told.of("quarrels 100;draw 999;lasts 5;");
        Sentence.due("quarrels 100", x.about(16), 100);
        Sentence.due("draw 999", x.about(7), 999);
        for (int i = 0; i < 3; i++) {
            Told.feed(x, SHIP + "pair p ship a needs 3;");
            x.quay();
            Sentence.due("quarrels, not told", x.about(16), 0);
            Sentence.due("draw, not told", x.about(7), 0);
            Sentence.due("lasts, not told", x.about(13), 0);
            Sentence.due("length(0), lasts not told", x.length(0), 3);
        }
        for (String word : new String[] {"custom", "rails", "lasts", "quarrels", "draw"}) {
            Sentence.fault(word + " 1;" + word + " 1;", 2, word.length() + 3);
            Sentence.fault(word + " 1;" + SHIP + word + " 1;", 2, word.length() + 18);
        }
    }

    private static void units() {
        Sentence.of(HERE, "60 units in all, 30 in one e");
        String thirty = "lasts 1" + "+1".repeat(29);
        GoodbyeQuay x = Told.of(SHIP + "pair p ship a needs 1;" + thirty + ";");
        Sentence.due("units", x.about(13), 30);
        Sentence.due("length(0) of thirty units", x.length(0), 30);
        String nots = "not not not not not not 1";
        x = Told.of(SHIP + "pair p ship a needs 1;lasts (" + nots + (" and " + nots).repeat(27) + ")*20;");
        Sentence.due("length(0) of thirty units, with nots", x.length(0), 20);
        Sentence.fault(thirty + "+1;", 2, thirty.length() + 1);
        Sentence.fault(thirty + " or 1;", 2, thirty.length() + 4);
        Sentence.fault(thirty + "+(1);", 2, thirty.length() + 1);
        Sentence.fault(thirty + "*needs;", 2, thirty.length() + 1);
        // A ( e ) is a unit besides those in it.
        Sentence.right("lasts (1)" + "+1".repeat(28) + ";", "lasts 1" + "+1".repeat(27) + "+(1);");
        Sentence.fault("lasts (1)" + "+1".repeat(29) + ";", 2, 6 + 3 + 56 + 1);
        Sentence.fault("lasts 1" + "+1".repeat(28) + "+(1);", 2, 6 + 1 + 56 + 2);
        Sentence.due("units with ( e )", Told.of("lasts (1)+((needs));").about(13), 5);
    }

    private static void depth() {
        Sentence.of(HERE, "(a unit ( e ), or a one behind not, within 6 others at most)");
        Sentence.right("lasts " + "(".repeat(7) + "1" + ")".repeat(7) + ";");
        Sentence.fault("lasts " + "(".repeat(8) + "1" + ")".repeat(8) + ";", 2, 13);
        Sentence.right("lasts " + "not ".repeat(7) + "1;");
        Sentence.fault("lasts " + "not ".repeat(8) + "1;", 2, 34);
        Sentence.right("lasts not (not (not (not 1)));", "lasts (not (not (not (1))));");
        Sentence.fault("lasts not (not (not (not (1))));", 2, 25);
        Sentence.fault("lasts (not (not (not (not 1))));", 2, 22);
        // One beside another is not within it.
        Sentence.right("lasts " + "(".repeat(7) + "1" + ")".repeat(7) + "*(((1))) or not (not (1)) and not 1;");
    }

    private static void faultsByPlace() {
        Sentence.of(HERE, "FAULTS, the first by its place (bytes from 0; the end: the text's length)");
        Sentence.fault("$", 1, 0);
        Sentence.fault("custom 0;$", 4, 7);
        Sentence.fault("$custom 0;", 1, 0);
        Sentence.fault("rails 1;rails 9;", 2, 8);
        Sentence.fault(SHIP + "ship a sails 999;", 3, 20);
        Sentence.fault(SHIP + "pair p ship z needs 99;", 5, 27);
        Sentence.fault("pair p ship a needs 99;", 5, 12);
        Sentence.fault("custom 99;custom 99;", 4, 7);
        Sentence.fault("custom 5", 2, 8);
        Sentence.fault("custom 5 \n ", 2, 11);
        Sentence.fault("custom", 2, 6);
        Sentence.of(HERE, "at one place the least");
        Sentence.fault("custom 61a;", 1, 7);
        Sentence.fault("custom 99999;", 1, 7);
        Sentence.fault("ship 999 sails 1;", 2, 5);
        Sentence.fault("5a;", 1, 0);
        Sentence.fault("lasts 1" + "+1".repeat(29) + "+5a;", 1, 66);
        Sentence.fault("lasts 1" + "+1".repeat(29) + "+ship;", 2, 66);
    }

    private static void faultsOfEachKind() {
        Sentence.of(HERE, ": 1 no TOKEN;");
        Sentence.fault("#", 1, 0);
        Sentence.fault("custom 5;\n#", 1, 10);
        Sentence.of(HERE, "2 one that can't stand there");
        Sentence.fault("sails", 2, 0);
        Sentence.fault("custom custom;", 2, 7);
        Sentence.fault("ship a; sails 1;", 2, 6);
        Sentence.of(HERE, "(one of a sort too many or a second time: at the line's first word;");
        Sentence.fault(manyShips(5) + " ship", 2, manyShips(5).length() + 1);
        Sentence.fault(manyShips(5) + "ship a sails 999;", 2, manyShips(5).length());
        Sentence.fault(manyShips(1) + manyPairs(7) + "\npair", 2, (manyShips(1) + manyPairs(7)).length() + 1);
        Sentence.fault(manyShips(1) + manyPairs(7) + "pair a ship z needs 0;", 2, (manyShips(1) + manyPairs(7)).length());
        Sentence.fault("draw 1; draw", 2, 8);
        Sentence.of(HERE, "a unit too many, what is within 7 others: at its first TOKEN, or the not)");
        String thirty = "lasts 1" + "+1".repeat(29);
        Sentence.fault(thirty + "+ (", 2, thirty.length() + 2);
        Sentence.fault(thirty + " and not 1;", 2, thirty.length() + 9);
        Sentence.fault("lasts " + "(".repeat(7) + " (1", 2, 14);
        Sentence.fault("lasts " + "(".repeat(7) + " not 1", 2, 14);
        Sentence.fault("lasts " + "not ".repeat(7) + " (1);", 2, 35);
        Sentence.of(HERE, "3 a NAME told already (of its sort)");
        Sentence.fault(SHIP + "ship a", 3, 20);
        Sentence.fault(SHIP + "pair p ship a needs 1;pair p", 3, 42);
        Sentence.right(SHIP + "pair a ship a needs 1;", SHIP + "ship b sails 1;pair b ship a needs 1;");
        Sentence.of(HERE, "4 a number that can't be");
        Sentence.fault("draw 1000", 4, 5);
        Sentence.right("lasts 9999;");
        Sentence.of(HERE, "5 a NAME that no SHIP has.");
        Sentence.fault(SHIP + "pair p ship p", 5, 27);
        Sentence.fault(SHIP + "pair p ship aa needs 1;", 5, 27);
        Sentence.fault(SHIP + "pair b ship a needs 1;pair p ship b needs 1;", 5, 49);
    }
}
