import java.util.ArrayList;
import java.util.HashSet;
import java.util.List;
import java.util.Set;

/** A plain second reading of a drill's text: recursive descent that stops by an exception. */
final class Text {
    static final class Fault extends Exception {
        private static final long serialVersionUID = 1L;
        final int kind;
        final int place;

        Fault(int kind, int place) {
            super("fault " + kind + " at " + place);
            this.kind = kind;
            this.place = place;
        }
    }

    record Token(char sort, String text, int place) { }

    /** A formula as a tree; what it is worth is worked out each time anew. */
    record Node(String sign, int number, Node a, Node b) {
        int value(int left, int own, int right) {
            switch (sign) {
                case "n": return number;
                case "left": return left;
                case "own": return own;
                case "right": return right;
                case "not": return a.value(left, own, right) == 0 ? 1 : 0;
                default:
            }
            int x = a.value(left, own, right);
            int y = b.value(left, own, right);
            return switch (sign) {
                case "+" -> x + y;
                case "-" -> x - y;
                case "*" -> x * y;
                case "/" -> y == 0 ? 0 : x / y;
                case "%" -> y == 0 ? 0 : x % y;
                case "<" -> x < y ? 1 : 0;
                case ">" -> x > y ? 1 : 0;
                case "=" -> x == y ? 1 : 0;
                case "and" -> (x != 0) && (y != 0) ? 1 : 0;
                case "or" -> (x != 0) || (y != 0) ? 1 : 0;
                default -> throw new IllegalStateException(sign);
            };
        }
    }

    static final Set<String> KEPT = Set.of("moves", "men", "ring", "edge", "rule", "man", "does", "by", "turned",
        "cracked", "window", "worth", "or", "and", "not", "left", "own", "right");

    int moves = 2;
    int men = 0;
    boolean ring = false;
    int edge = 0;
    int[] worths = {0, 1, 2, 3};
    final List<String> names = new ArrayList<>();
    final List<Node> rules = new ArrayList<>();
    int units = 0;
    int[] first = new int[0];
    int[] ruleOf = new int[0];
    boolean[] turned = new boolean[0];
    boolean[] cracked = new boolean[0];
    int[] window = new int[0];

    private final List<Token> tokens = new ArrayList<>();
    private int next = 0;
    private int unitsInRule;

    Text(byte[] bytes) throws Fault {
        scan(bytes);
        read();
    }

    private void scan(byte[] bytes) {
        int i = 0;
        while (i < bytes.length) {
            int c = bytes[i] & 255;
            int from = i;
            if (c == 32 || c == 10) {
                i++;
            } else if (c >= 'a' && c <= 'z') {
                StringBuilder word = new StringBuilder();
                for (; i < bytes.length && bytes[i] >= 'a' && bytes[i] <= 'z'; i++) {
                    word.append((char) bytes[i]);
                }
                tokens.add(new Token(word.length() <= 8 ? 'w' : '?', word.toString(), from));
            } else if (c >= '0' && c <= '9') {
                StringBuilder digits = new StringBuilder();
                for (; i < bytes.length && bytes[i] >= '0' && bytes[i] <= '9'; i++) {
                    digits.append((char) bytes[i]);
                }
                boolean letter = i < bytes.length && bytes[i] >= 'a' && bytes[i] <= 'z';
                tokens.add(new Token(digits.length() <= 4 && !letter ? 'n' : '?', digits.toString(), from));
            } else {
                tokens.add(new Token(";()<>=+-*/%".indexOf(c) >= 0 ? 's' : '?', "" + (char) c, from));
                i++;
            }
        }
        tokens.add(new Token('$', "", bytes.length));
    }

    private Token peek() {
        return tokens.get(next);
    }

    private boolean at(String text) {
        return (peek().sort == 'w' || peek().sort == 's') && peek().text.equals(text);
    }

    private Fault misplaced() {
        return new Fault(peek().sort == '?' ? 1 : 2, peek().place);
    }

    private void must(String text) throws Fault {
        if (!at(text)) {
            throw misplaced();
        }
        next++;
    }

    private int number(int least, int most) throws Fault {
        if (peek().sort != 'n') {
            throw misplaced();
        }
        int n = Integer.parseInt(peek().text);
        if (n < least || n > most) {
            throw new Fault(4, peek().place);
        }
        next++;
        return n;
    }

    private String name() throws Fault {
        if (peek().sort != 'w' || KEPT.contains(peek().text)) {
            throw misplaced();
        }
        return peek().text;
    }

    private void read() throws Fault {
        if (peek().sort == '$') {
            return;
        }
        must("moves");
        moves = number(2, 4);
        must(";");
        if (peek().sort == '$') {
            return;
        }
        must("men");
        men = number(1, 30);
        must(";");
        first = new int[men];
        ruleOf = new int[men];
        turned = new boolean[men];
        cracked = new boolean[men];
        window = new int[men];
        java.util.Arrays.fill(window, -1);
        Set<String> once = new HashSet<>();
        Set<Integer> told = new HashSet<>();
        while (peek().sort != '$') {
            String word = peek().sort == 'w' ? peek().text : "";
            boolean single = word.equals("ring") || word.equals("edge") || word.equals("worth");
            if (single && !once.add(word) || !single && !word.equals("rule") && !word.equals("man")
                || word.equals("rule") && rules.size() == 6) {
                throw misplaced();
            }
            next++;
            switch (word) {
                case "ring" -> ring = true;
                case "edge" -> edge = number(0, moves - 1);
                case "worth" -> {
                    for (int i = 0; i < moves; i++) {
                        worths[i] = number(0, 99);
                    }
                }
                case "rule" -> rule();
                default -> man(told);
            }
            must(";");
        }
    }

    private void rule() throws Fault {
        String name = name();
        if (names.contains(name)) {
            throw new Fault(3, peek().place);
        }
        next++;
        unitsInRule = 0;
        Node e = whole(0);
        names.add(name);
        rules.add(e);
    }

    private void man(Set<Integer> told) throws Fault {
        int place = peek().place;
        int man = number(0, men - 1);
        if (!told.add(man)) {
            throw new Fault(3, place);
        }
        must("does");
        first[man] = number(0, moves - 1);
        if (at("by")) {
            next++;
            String name = name();
            if (!names.contains(name)) {
                throw new Fault(5, peek().place);
            }
            ruleOf[man] = names.indexOf(name);
            next++;
        }
        if (at("turned")) {
            turned[man] = true;
            next++;
        }
        if (at("cracked")) {
            cracked[man] = true;
            next++;
        }
        if (at("window")) {
            next++;
            window[man] = number(0, moves - 1);
        }
    }

    private Node whole(int deep) throws Fault {
        Node a = both(deep);
        while (at("or")) {
            next++;
            a = new Node("or", 0, a, both(deep));
        }
        return a;
    }

    private Node both(int deep) throws Fault {
        Node a = one(deep);
        while (at("and")) {
            next++;
            a = new Node("and", 0, a, one(deep));
        }
        return a;
    }

    private Node one(int deep) throws Fault {
        if (at("not")) {
            if (deep == 7) {
                throw misplaced();
            }
            next++;
            return new Node("not", 0, one(deep + 1), null);
        }
        Node a = sum(deep);
        if (at("<") || at(">") || at("=")) {
            String sign = tokens.get(next++).text;
            a = new Node(sign, 0, a, sum(deep));
        }
        return a;
    }

    private Node sum(int deep) throws Fault {
        Node a = term(deep);
        while (at("+") || at("-")) {
            String sign = tokens.get(next++).text;
            a = new Node(sign, 0, a, term(deep));
        }
        return a;
    }

    private Node term(int deep) throws Fault {
        Node a = unit(deep);
        while (at("*") || at("/") || at("%")) {
            String sign = tokens.get(next++).text;
            a = new Node(sign, 0, a, unit(deep));
        }
        return a;
    }

    private Node unit(int deep) throws Fault {
        boolean number = peek().sort == 'n';
        if (!number && !at("left") && !at("own") && !at("right") && !at("(")) {
            throw misplaced();
        }
        if (unitsInRule == 30 || units == 90 || at("(") && deep == 7) {
            throw misplaced();
        }
        unitsInRule++;
        units++;
        Token token = tokens.get(next++);
        if (number) {
            return new Node("n", Integer.parseInt(token.text), null, null);
        }
        if (!token.text.equals("(")) {
            return new Node(token.text, 0, null, null);
        }
        Node inner = whole(deep + 1);
        must(")");
        return inner;
    }
}
