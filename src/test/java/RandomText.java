import java.util.Random;

/** Texts of quays for tests: right ones, and ones with something wrong in them. */
final class RandomText {
    private static final String[] NAMES = {"a", "b", "ada", "bee", "shipx", "quarrel", "needsx", "zzzzzzzz", "z"};
    private static final String[] PIECES = {
        "ship", "pair", "sails", "waits", "needs", "love", "custom", "rails", "lasts", "quarrels", "draw", "or", "and",
        "not", "behind", "left", "minute", ";", "(", ")", "<", ">", "=", "+", "-", "*", "/", "%", "0", "1", "2", "31",
        "61", "100", "240", "241", "999", "1000", "9999", "12345", "00007", "5a", "a5", "abcdefghi", "abcdefgh", "a",
        "b", "ada", " ", "\n", "\t", "A", "$", "\u0000", "\u00ff", "."};

    private final Random random;

    RandomText(Random random) {
        this.random = random;
    }

    private String gap() {
        String[] gaps = {" ", " ", " ", "\n", "  ", " \n "};
        return gaps[random.nextInt(gaps.length)];
    }

    private String maybeGap() {
        return random.nextInt(3) == 0 ? gap() : "";
    }

    String unit(int depth) {
        String[] words = {"needs", "love", "custom", "behind", "left", "minute"};
        int kind = random.nextInt(depth > 0 ? 10 : 8);
        if (kind < 5) {
            return words[random.nextInt(words.length)];
        }
        if (kind < 8) {
            int[] numbers = {0, 1, 2, 3, 5, 7, 10, 30, 100, 9999};
            return String.valueOf(numbers[random.nextInt(numbers.length)]);
        }
        return "(" + formula(depth - 1) + ")";
    }

    private String sum(int depth) {
        StringBuilder b = new StringBuilder(unit(depth));
        for (int i = random.nextInt(3); i > 0; i--) {
            b.append(maybeGap()).append("+-*/%+-".charAt(random.nextInt(7))).append(maybeGap()).append(unit(depth));
        }
        return b.toString();
    }

    private String one(int depth) {
        if (random.nextInt(8) == 0) {
            return "not " + one(depth);
        }
        String left = sum(depth);
        return random.nextInt(4) > 0 ? left : left + maybeGap() + "<>=".charAt(random.nextInt(3)) + maybeGap() + sum(depth);
    }

    String formula(int depth) {
        StringBuilder b = new StringBuilder(one(depth));
        for (int i = random.nextInt(5) - 2; i > 0; i--) {
            b.append(gap()).append(random.nextBoolean() ? "or" : "and").append(gap()).append(one(depth));
        }
        return b.toString();
    }

    String right(int mostPairs) {
        StringBuilder b = new StringBuilder();
        int ships = 1 + random.nextInt(5);
        int span = new int[] {10, 30, 60, 120, 241}[random.nextInt(5)];
        if (random.nextInt(3) == 0) {
            b.append("rails").append(gap()).append(random.nextInt(2) + 1).append(";");
        }
        for (int s = 0; s < ships; s++) {
            b.append("ship").append(gap()).append("s").append((char) ('a' + s)).append(gap()).append("sails");
            b.append(maybeGap()).append(random.nextInt(span));
            if (random.nextBoolean()) {
                b.append(gap()).append("waits").append(maybeGap()).append(random.nextInt(random.nextInt(61) + 1));
            }
            b.append(maybeGap()).append(";").append(maybeGap());
        }
        int pairs = random.nextInt(mostPairs + 1);
        int mostNeeds = random.nextBoolean() ? 30 : 8;
        for (int p = 0; p < pairs; p++) {
            b.append("pair").append(gap()).append("p").append((char) ('a' + p)).append(gap()).append("ship").append(gap());
            b.append("s").append((char) ('a' + random.nextInt(ships))).append(gap()).append("needs").append(maybeGap());
            b.append(random.nextInt(mostNeeds) + 1);
            if (random.nextBoolean()) {
                b.append(gap()).append("love").append(maybeGap()).append(random.nextInt(21));
            }
            b.append(maybeGap()).append(";").append(maybeGap());
        }
        if (random.nextInt(3) == 0) {
            b.append("custom ").append(random.nextInt(60) + 1).append(";");
        }
        if (random.nextBoolean()) {
            b.append("lasts ").append(formula(2)).append(";");
        }
        if (random.nextBoolean()) {
            int quarrels = random.nextInt(8) == 0 ? 100 : random.nextInt(101);
            b.append("quarrels ").append(quarrels).append(";").append(maybeGap());
        }
        if (random.nextBoolean()) {
            b.append("draw ").append(random.nextInt(1000)).append(";").append(maybeGap());
        }
        return cut(b.toString());
    }

    /** A right text with a few pieces put in, taken out or put elsewhere: often wrong by now. */
    String wrong() {
        StringBuilder b = new StringBuilder(right(7));
        for (int i = 1 + random.nextInt(2); i > 0; i--) {
            int at = random.nextInt(b.length() + 1);
            switch (random.nextInt(5)) {
                case 0:
                    b.insert(at, PIECES[random.nextInt(PIECES.length)]);
                    break;
                case 1:
                    b.delete(at, Math.min(b.length(), at + 1 + random.nextInt(3)));
                    break;
                case 2:
                    b.setLength(at);
                    break;
                case 3:
                    b.insert(at, " " + PIECES[random.nextInt(PIECES.length)] + " ");
                    break;
                default:
                    int line = b.indexOf(";", at);
                    b.insert(line < 0 ? b.length() : line + 1, otherLine());
            }
        }
        return cut(b.toString());
    }

    private String otherLine() {
        String[] lines = {
            "ship " + name() + " sails " + random.nextInt(250) + ";",
            "ship sa sails 3;",
            "pair " + name() + " ship sa needs " + random.nextInt(32) + ";",
            "pair pa ship sa needs 1;",
            "pair x ship " + name() + " needs 2 love " + random.nextInt(23) + ";",
            "custom " + random.nextInt(63) + ";",
            "rails " + random.nextInt(4) + ";",
            "quarrels " + random.nextInt(103) + ";",
            "draw " + random.nextInt(1003) + ";",
            "lasts " + formula(8) + ";",
            "lasts " + "(".repeat(random.nextInt(9)) + "not ".repeat(random.nextInt(9)) + "1;",
            "lasts 1" + "+needs".repeat(27 + random.nextInt(5)) + ";"};
        return lines[random.nextInt(lines.length)];
    }

    private String name() {
        return NAMES[random.nextInt(NAMES.length)];
    }

    String soup() {
        StringBuilder b = new StringBuilder();
        for (int i = random.nextInt(12); i > 0; i--) {
            b.append(PIECES[random.nextInt(PIECES.length)]).append(random.nextBoolean() ? " " : "");
        }
        return cut(b.toString());
    }

    private static String cut(String text) {
        return text.length() > 1600 ? text.substring(0, 1600) : text;
    }
}
