import java.util.Random;

/** Texts of drills by chance: good ones, and ones with something wrong. */
final class Make {
    private final Random chance;

    Make(long seed) {
        chance = new Random(seed);
    }

    int below(int n) {
        return chance.nextInt(n);
    }

    boolean one(int in) {
        return chance.nextInt(in) == 0;
    }

    private String gap() {
        return one(4) ? "" : one(6) ? "\n" : one(5) ? "  " : " ";
    }

    private String gapWord() {
        return one(6) ? "\n" : " ";
    }

    String text(int mostMen) {
        int moves = 2 + below(3);
        int men = 1 + below(mostMen);
        StringBuilder s = new StringBuilder("moves" + gap() + moves + gap() + ";" + gap() + "men" + gap() + men + ";");
        if (one(2)) {
            s.append("ring").append(gap()).append(";");
        }
        if (one(2)) {
            s.append(gap()).append("edge").append(gap()).append(below(moves)).append(";");
        }
        if (one(2)) {
            s.append("worth");
            for (int i = 0; i < moves; i++) {
                s.append(' ').append(one(2) ? below(4) : below(100));
            }
            s.append(gap()).append(";");
        }
        int rules = one(12) ? 0 : 1 + below(one(5) ? 6 : 2);
        for (int i = 0; i < rules; i++) {
            s.append(gap()).append("rule").append(gapWord()).append(name(i)).append(gapWord())
                .append(rule(moves)).append(gap()).append(";").append(gap());
        }
        for (int i = 0; i < men; i++) {
            if (!one(4)) {
                s.append(man(i, moves, rules));
            }
        }
        return s.length() <= 1600 ? s.toString() : text(mostMen);
    }

    private static String name(int i) {
        return "abcdefgh".substring(0, i + 1);
    }

    private String man(int i, int moves, int rules) {
        StringBuilder s = new StringBuilder("man ").append(i).append(" does ").append(below(moves));
        if (rules > 0 && one(2)) {
            s.append(" by ").append(name(below(rules)));
        }
        if (one(6)) {
            s.append(" turned");
        }
        if (one(12)) {
            s.append(" cracked");
        }
        if (one(12)) {
            s.append(" window").append(gap()).append(below(moves));
        }
        return s.append(";").append(one(3) ? "\n" : "").toString();
    }

    String rule(int moves) {
        switch (below(6)) {
            case 0: return formula(3);
            case 1: return moves == 2 ? minterms() : mixed();
            case 2: return mixed();
            case 3: return below(4) + "*left+" + below(4) + " * own + " + below(4) + "*right + " + below(4);
            case 4: return turnedRound(moves);
            default: return moves == 2 ? minterms() : formula(2);
        }
    }

    private String turnedRound(int moves) {
        if (moves == 4) {
            String[] sides = {"left", "own", "right"};
            String core = sides[below(3)] + "/2*2+" + sides[below(3)] + "%2";
            return one(2) ? core : core + "+" + below(4);
        }
        return new String[] {"left", "right", "own", "1-own", "left+1", "right*2"}[below(6)];
    }

    private String mixed() {
        return "(left*" + below(50) + "+own*" + below(50) + "+right*" + below(50) + "+" + below(30) + ")*(left+own*"
            + below(9) + "+right*" + below(9) + "+" + below(9) + ")/" + (1 + below(5)) + "%" + (2 + below(97));
    }

    private String minterms() {
        StringBuilder s = new StringBuilder("0");
        int bits = below(256);
        for (int i = 0; i < 8; i++) {
            if ((bits >> i & 1) != 0) {
                s.append(" or ").append((i & 4) != 0 ? "left" : "not left").append(" and ")
                    .append((i & 2) != 0 ? "own" : "not own").append(" and ").append((i & 1) != 0 ? "right" : "not right");
            }
        }
        return s.toString();
    }

    String formula(int deep) {
        StringBuilder s = new StringBuilder();
        int parts = 1 + below(3);
        for (int i = 0; i < parts; i++) {
            if (i > 0) {
                s.append(one(2) ? " and " : " or ");
            }
            s.append(one(4) ? "not " : "").append(sum(deep));
            if (one(3)) {
                s.append(gap()).append("<>=".charAt(below(3))).append(gap()).append(sum(deep));
            }
        }
        return s.toString();
    }

    private String sum(int deep) {
        StringBuilder s = new StringBuilder(unit(deep));
        for (int i = below(3); i > 0; i--) {
            s.append(gap()).append("+-*/%".charAt(below(5))).append(gap()).append(unit(deep));
        }
        return s.toString();
    }

    private String unit(int deep) {
        switch (below(deep > 0 ? 6 : 5)) {
            case 0: return "left";
            case 1: return "own";
            case 2: return "right";
            case 3: return "" + below(5);
            case 4: return "" + below(10000);
            default: return "(" + formula(deep - 1) + ")";
        }
    }

    private static final String[] BITS = {";", "(", ")", "<", "=", "+", "/", "%", " ", "\n", "7", "12", "12345", "a", "zz",
        "not ", "not not not not not not not not ", "((((((((", " left ", " or ", "moves ", " men ", "ring;", "ring", "edge 1;",
        "worth 1 2;", " rule q left;", "rule a own;", "man 0 does 1;", " by a", " by zq", " turned", " cracked", " window 1",
        "abcdefghi", "!", "A", "\t", "\u00e9", "0", "99", "100", "\u0000", "does", "own*own*own*own*own*own*own*own*own*"};

    String spoiled(String text) {
        StringBuilder s = new StringBuilder(text);
        for (int i = 1 + below(2); i > 0; i--) {
            int at = below(s.length() + 1);
            switch (below(4)) {
                case 0 -> s.insert(at, BITS[below(BITS.length)]);
                case 1 -> s.delete(at, Math.min(s.length(), at + 1 + below(6)));
                case 2 -> s.setLength(at);
                default -> s.replace(at, Math.min(s.length(), at + 1 + below(3)), BITS[below(BITS.length)]);
            }
        }
        return s.length() <= 1600 ? s.toString() : s.substring(0, 1600);
    }
}
