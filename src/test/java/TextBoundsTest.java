/** The bounds that the document names for a text and its faults: one test for each sentence. */
public final class TextBoundsTest {
    private static final int NONE = MirrorDrill.NONE;
    private static final String HEAD = "moves 2;men 3;";
    private static final String FOUR = "moves 4;men 3;";
    private static final String SIGNS = ";()<>=+-*/%";
    private static final String[] OWN_WORDS = {"moves", "men", "ring", "edge", "rule", "man", "worth", "does", "by", "turned",
        "cracked", "window", "or", "and", "not", "left", "own", "right"};
    private static final String[] JOINS = {"or", "and", "<", ">", "=", "+", "-", "*", "/", "%"};

    private TextBoundsTest() {
    }

    public static void main(String[] args) {
        longestText();
        noLineOrMany();
        wholeLines();
        optionalParts();
        formulasWhole();
        joinsStandBetween();
        oneRelation();
        notStandsAhead();
        lettersOfWords();
        digitsOfNumbers();
        signs();
        blanks();
        asLongAsCanBe();
        noLetterBehindNumber();
        ownWordsAreNoNames();
        movesBounds();
        menBounds();
        firstLines();
        onceEach();
        behindBoth();
        emptyText();
        movesAlone();
        edgeBounds();
        worthBounds();
        worthUntold();
        ringEdgeWorthOnce();
        sixRules();
        ninetyUnits();
        thirtyUnits();
        withinSix();
        menOfLines();
        doesBounds();
        windowBounds();
        ruleToldAhead();
        manNotTold();
        firstRule();
        withoutRules();
        firstByPlace();
        bytesFromZero();
        leastAtOnePlace();
        atTheLinesFirstWord();
        worthTooManyThere();
        tooManyAtFirstToken();
        toldAlready();
        numbersThatCannotBe();
        namesThatNoRuleHas();
        Trial.close("TextBoundsTest");
    }

    private static void sentence(String quoted) {
        Trial.sentence(quoted);
    }

    private static Trial good(String text, int men) {
        return Trial.good(text, men);
    }

    private static void fault(int kind, String marked) {
        Trial.fault(kind, marked);
    }

    private static boolean isLetter(char c) {
        return c >= 'a' && c <= 'z';
    }

    private static boolean isDigit(char c) {
        return c >= '0' && c <= '9';
    }

    private static boolean isBlank(char c) {
        return c == 32 || c == 10;
    }

    private static String padded(String ahead, String behind, int length) {
        return ahead + " ".repeat(length - ahead.length() - behind.length()) + behind;
    }

    private static void longestText() {
        sentence("A DRILL is a text of at most 1,600 bytes (empty at first)");
        good(padded(HEAD, "ring;", 1599), 3).due(1, "about", 10);
        good(padded(HEAD, "ring;", 1600), 3).due(1, "about", 10);
        Trial.faultAt(1, 1599, padded(HEAD, "ring;!", 1600));
        Trial.faultAt(2, 1600, padded(HEAD, "ring", 1600));
        Trial.fresh().due(0, "about", 8).due(0, "drill").due(0, "about", 0);
        Trial full = Trial.fresh().tape(padded(HEAD, "ring;", 1600));
        full.refused(NONE, "feed", 0x20202020, 0x20202020, 0x20202020, 0x20202020, 0x20202020);
        full.due(3, "drill").due(1, "about", 10);
    }

    private static void noLineOrMany() {
        sentence("drill = {line}.");
        good("", 0);
        good("moves 2;", 0);
        good(HEAD, 3);
        StringBuilder many = new StringBuilder("moves 4;men 30;ring;edge 3;worth 1 2 3 4;");
        for (char name = 'a'; name <= 'f'; name++) {
            many.append("rule ").append(name).append(" own;");
        }
        for (int man = 0; man < 30; man++) {
            many.append("man ").append(man).append(" does 3 by f turned window 3;");
        }
        good(many.toString(), 30).due(6, "about", 2).due(3, "does", 0).due(3, "does", 29);
        fault(2, many + "^ring;");
    }

    /** Each token is left out at the end, and changed for one that can stand nowhere but at a line's beginning. */
    private static void eachToken(String ahead, String... tokens) {
        String text = ahead;
        for (int i = 0; i < tokens.length; i++) {
            fault(2, text + " ^" + (i == 0 ? "does" : "moves") + " ;");
            if (i > 0) {
                fault(2, text);
            }
            text = text + (i == 0 ? "" : " ") + tokens[i];
        }
        fault(2, text + "^;");
        Trial.of(text);
    }

    private static void wholeLines() {
        sentence("line = moves N ;  |  men N ;  |  ring ;  |  edge N ;  |  rule NAME e ;  |  man N does N");
        eachToken("", "moves", "2", ";");
        eachToken("moves 2;", "men", "3", ";");
        eachToken(HEAD, "ring", ";");
        eachToken(HEAD, "edge", "1", ";");
        eachToken(HEAD, "rule", "a", "own", ";");
        eachToken(HEAD, "man", "1", "does", "1", ";");
        eachToken(HEAD, "worth", "1", "2", ";");
        eachToken(HEAD + "rule a own;", "man", "1", "does", "1", "by", "a", "turned", "cracked", "window", "1", ";");
        fault(2, HEAD + "edge ^a;");
        fault(2, HEAD + "man ^a does 1;");
        fault(2, HEAD + "rule ^1 own;");
        fault(2, HEAD + "man 1 does 1 by ^1;");
    }

    private static void optionalParts() {
        sentence("[by NAME] [turned] [cracked] [window N] ;");
        String[] parts = {" by b", " turned", " cracked", " window 1"};
        String ahead = "moves 4;men 3;rule a left;rule b left*2+right+1;man 0 does 2;man 2 does 3;man 1 does 1";
        for (int set = 0; set < 16; set++) {
            StringBuilder line = new StringBuilder(ahead);
            for (int i = 0; i < 4; i++) {
                line.append((set >> i & 1) != 0 ? parts[i] : "");
            }
            Trial trial = good(line + ";", 3);
            trial.call("run", 1);
            trial.due((set & 4) != 0 ? 1 : doneBy(set), "does", 1);
        }
        for (int first = 0; first < 4; first++) {
            for (int second = 0; second <= first; second++) {
                fault(2, ahead + parts[first] + " ^" + parts[second].substring(1) + ";");
            }
        }
    }

    /** What man 1 does, who is not cracked, between a 2 and a 3. */
    private static int doneBy(int set) {
        boolean turned = (set & 2) != 0;
        boolean window = (set & 8) != 0;
        int left = window ? 1 : turned ? 3 : 2;
        int right = window ? 1 : turned ? 2 : 3;
        return (set & 1) != 0 ? (left * 2 + right + 1) % 4 : left;
    }

    private static void formulasWhole() {
        sentence("unit = N | left | own | right | ( e ).");
        eachToken(HEAD + "rule a not ( left + 1 ) * own < right / 2 % 3 - 4 and 5 > 6 or 7 = 8 ;",
            "rule", "b", "not", "(", "left", "+", "1", ")", "*", "own", "<", "right", "/", "2", "%", "3", "-", "4",
            "and", "5", ">", "6", "or", "7", "=", "8", ";");
        fault(2, HEAD + "rule a (^);");
        fault(2, HEAD + "rule a ((1)^;");
        fault(2, HEAD + "rule a (1)^);");
        fault(2, HEAD + "rule a 1 ^2;");
        fault(2, HEAD + "rule a own ^own;");
        fault(2, HEAD + "rule a (1) ^(1);");
        fault(2, HEAD + "rule a ^a;");
        fault(2, HEAD + "rule a own + ^a;");
    }

    private static void joinsStandBetween() {
        sentence("sum = term {(+ | -) term}.  term = unit {(* | / | %) unit}.");
        for (String join : JOINS) {
            good(HEAD + "rule a 1 " + join + " 1;", 3);
            fault(2, HEAD + "rule a ^" + join + " 1;");
            fault(2, HEAD + "rule a 1 " + join + "^;");
            fault(2, HEAD + "rule a (1 " + join + "^);");
            fault(2, HEAD + "rule a (^" + join + " 1);");
            fault(2, HEAD + "rule a 1 " + join);
            for (String other : JOINS) {
                fault(2, HEAD + "rule a 1 " + join + " ^" + other + " 1;");
            }
        }
    }

    private static void oneRelation() {
        sentence("one = not one | sum [(< | > | =) sum].");
        String[] relations = {"<", ">", "="};
        for (String first : relations) {
            for (String second : relations) {
                fault(2, HEAD + "rule a 1 " + first + " 2 ^" + second + " 3;");
                fault(2, HEAD + "rule a 1 + 1 " + first + " 2 + 2 ^" + second + " 3;");
                fault(2, HEAD + "rule a not 1 " + first + " 2 ^" + second + " 3;");
                good(HEAD + "rule a (1 " + first + " 2) " + second + " 3;", 3);
                good(HEAD + "rule a 1 " + first + " 2 and 2 " + second + " 3;", 3);
                good(HEAD + "rule a 1 " + first + " 2 or 2 " + second + " 3;", 3);
            }
        }
    }

    private static void notStandsAhead() {
        sentence("both = one {and one}.  one = not one");
        for (String join : JOINS) {
            boolean joinsOnes = join.equals("and") || join.equals("or");
            if (joinsOnes) {
                good(HEAD + "rule a 1 " + join + " not 1;", 3);
            } else {
                fault(2, HEAD + "rule a 1 " + join + " ^not 1;");
            }
            good(HEAD + "rule a not 1 " + join + " 1;", 3);
            good(HEAD + "rule a 1 " + join + " (not 1);", 3);
            fault(2, HEAD + "rule a not ^" + join + " 1;");
        }
        good(HEAD + "rule a not not 1;", 3);
        fault(2, HEAD + "rule a not^;");
        fault(2, HEAD + "rule a 1 ^not 1;");
        Trial.makes(0, "not 2 = 2");
        Trial.makes(0, "(not 2) = 2");
        Trial.makes(1, "not 0 = 1");
        Trial.makes(0, "not 0 and 0");
    }

    private static void lettersOfWords() {
        sentence("words (a .. z, 8 at most)");
        good(HEAD + "rule a own;", 3);
        good(HEAD + "rule z own;", 3);
        good(HEAD + "rule azazazaz own;man 0 does 1 by azazazaz;", 3);
        fault(1, HEAD + "rule ^azazazaza own;");
        fault(1, HEAD + "rule azazazaz own;man 0 does 1 by ^azazazaza;");
        fault(1, HEAD + "^ringringr;");
        fault(2, HEAD + "^ringring;");
        fault(1, HEAD + "rule ^Aa own;");
        fault(1, HEAD + "rule ^Z own;");
        fault(1, HEAD + "rule ^` own;");
        fault(1, HEAD + "rule ^{ own;");
        fault(1, HEAD + "rule ^_a own;");
        fault(1, HEAD + "rule a^A own;");
        fault(5, HEAD + "rule azazazaz own;man 0 does 1 by ^azazazay;");
        fault(5, HEAD + "rule azazazaz own;man 0 does 1 by ^azazaza;");
        fault(5, HEAD + "rule azazazaz own;man 0 does 1 by ^zazazaz;");
    }

    private static void digitsOfNumbers() {
        sentence("N (1 to 4 digits)");
        good("moves 4;men 9;", 9);
        good("moves 04;men 09;", 9);
        good("moves 0004;men 0009;", 9);
        fault(1, "moves ^00004;");
        fault(1, "moves 4;men ^00009;");
        good(HEAD + "rule a 9999;", 3);
        fault(1, HEAD + "rule a ^10000;");
        fault(1, HEAD + "rule a ^99999;");
        Trial.makes(1, "9999 = 9999 and 9998 < 9999 and 0 < 1 and 0000 = 0 and 0987 = 987");
        fault(4, "moves 4;men ^9999;");
        fault(1, "moves 4^.;");
        fault(1, "moves 4^:;");
    }

    private static void signs() {
        sentence("signs ; ( ) < > = + - * / %");
        for (char c = 0; c < 256; c++) {
            if (isBlank(c)) {
                good("" + c, 0);
            } else {
                boolean token = isLetter(c) || isDigit(c) || SIGNS.indexOf(c) >= 0;
                Trial.faultAt(token ? 2 : 1, 0, "" + c);
                Trial.faultAt(token ? 2 : 1, HEAD.length(), HEAD + c);
            }
        }
    }

    private static void blanks() {
        sentence("blanks (32, 10) part them or not");
        good("moves2;men3;rule a(left)and(own)or not(right);man0 does1 by a turned cracked window1;worth1 2;edge1;ring;", 3);
        good("moves 2 ; men 3 ; rule a ( left ) and ( own ) ; ring ; edge 1 ; worth 1 2 ; man 0 does 1 by a ;", 3);
        good("\nmoves\n2\n;\nmen\n3\n;\nring\n;\n", 3);
        good(" \n  moves \n\n 2 \n; \n men  3;\n ", 3);
        for (char c = 0; c < 256; c++) {
            String text = "moves" + c + "2;men 3;";
            if (isBlank(c)) {
                good(text, 3);
            } else if (!isLetter(c) && !isDigit(c) && SIGNS.indexOf(c) < 0) {
                Trial.faultAt(1, 5, text);
            }
        }
        fault(2, "^movesmen;");
    }

    private static void asLongAsCanBe() {
        sentence("each is as long as can be");
        good("moves 3;men 12;", 12);
        good("moves 3;men 30;", 30);
        fault(4, "moves 3;men ^31;");
        fault(2, "moves 3;men 3 ^0;");
        fault(2, HEAD + "rule a ^leftown;");
        fault(2, HEAD + "rule a left ^own;");
        fault(2, HEAD + "^ruleb own;");
        good(HEAD + "rule ruleb own;man 0 does 1 by ruleb;", 3);
        good(HEAD + "rule notown not own;man 0 does 1 by notown;", 3);
        fault(2, HEAD + "man 0 does 1 ^turnedc;");
        Trial.makes(3, "11-8");
        Trial.makes(1, "left<11");
    }

    private static void noLetterBehindNumber() {
        sentence("no letter directly behind an N");
        for (char c = 0; c < 256; c++) {
            String text = "moves 2" + c;
            if (c == ';') {
                good(text, 0);
            } else if (isLetter(c)) {
                Trial.faultAt(1, 6, text);
            } else if (isDigit(c)) {
                Trial.faultAt(4, 6, text);
            } else if (isBlank(c)) {
                Trial.faultAt(2, 8, text);
            } else {
                Trial.faultAt(SIGNS.indexOf(c) >= 0 ? 2 : 1, 7, text);
            }
        }
        fault(1, HEAD + "rule a own;man 0 does ^1by a;");
        fault(1, HEAD + "rule a ^1or own;");
        good(HEAD + "rule a own;man 0 does 1 by a;rule b 1 or own;", 3);
        good(HEAD + "rule a left<own;man0 does1;", 3);
    }

    private static void ownWordsAreNoNames() {
        sentence("Words that stand for themselves here are no NAMES.");
        for (String word : OWN_WORDS) {
            fault(2, HEAD + "rule ^" + word + " own;");
            fault(2, HEAD + "rule a own;man 0 does 1 by ^" + word + ";");
            good(HEAD + "rule " + word + "x own;man 0 does 1 by " + word + "x;", 3);
            String less = word.substring(1);
            if (!less.equals("or")) {
                good(HEAD + "rule " + less + " own;man 0 does 1 by " + less + ";", 3);
            }
        }
        for (String word : new String[] {"drill", "line", "e", "both", "one", "sum", "term", "unit", "name", "n"}) {
            good(HEAD + "rule " + word + " own;man 0 does 1 by " + word + ";", 3);
        }
    }

    private static void movesBounds() {
        sentence("moves (2 .. 4; MOVES are 0 .. moves - 1)");
        fault(4, "moves ^0;");
        fault(4, "moves ^1;");
        fault(4, "moves ^5;");
        fault(4, "moves ^9999;");
        for (int moves = 2; moves <= 4; moves++) {
            Trial trial = good("moves " + moves + ";men 1;rule a own;", 1).due(moves, "about", 1);
            trial.due(NONE, "made", 0, 0, -1, 0).due(0, "made", 0, 0, 0, 0);
            trial.due(moves - 1, "made", 0, 0, moves - 1, 0).due(NONE, "made", 0, 0, moves, 0);
        }
    }

    private static void menBounds() {
        sentence("men (1 .. 30)");
        fault(4, "moves 2;men ^0;");
        good("moves 2;men 1;", 1).row("0");
        good("moves 2;men 2;", 2).row("00");
        good("moves 2;men 29;", 29).row("0".repeat(29));
        good("moves 2;men 30;", 30).row("0".repeat(30));
        fault(4, "moves 2;men ^31;");
        fault(4, "moves 2;men ^9999;");
    }

    private static void firstLines() {
        sentence("come first, in this order");
        fault(2, "^men 3;");
        fault(2, "^men 3;moves 2;");
        good("moves 2;men 3;", 3);
    }

    private static void onceEach() {
        sentence("once each, other lines behind both alone");
        fault(2, "moves 2;^moves 2;");
        fault(2, "moves 2;^moves 2;men 3;");
        fault(2, "moves 2;men 3;^moves 2;");
        fault(2, "moves 2;men 3;^men 3;");
        fault(2, "moves 2;men 3;ring;^men 3;");
        fault(2, "moves 2;men 3;ring;^moves 2;");
    }

    private static void behindBoth() {
        sentence("other lines behind both alone");
        for (String line : new String[] {"ring;", "edge 1;", "rule a own;", "man 0 does 1;", "worth 1 2;"}) {
            fault(2, "^" + line);
            fault(2, "^" + line + "moves 2;men 3;");
            fault(2, "moves 2;^" + line);
            fault(2, "moves 2;^" + line + "men 3;");
            good("moves 2;men 3;" + line, 3);
        }
    }

    private static void emptyText() {
        sentence("(a text may be empty: 2 MOVES, no MEN;");
        good("", 0).due(0, "about", 0).due(2, "about", 1).due(NONE, "does", 0).due(0, "about", 2);
        good(" \n ", 0).due(0, "about", 0).due(2, "about", 1);
        Trial behind = Trial.of("moves 4;men 3;ring;rule a own;worth 1 2 3 4;man 0 does 3;").tape("");
        behind.due(0, "drill").due(2, "about", 1).due(0, "about", 2).due(0, "about", 9).due(0, "about", 10).due(0, "worth");
    }

    private static void movesAlone() {
        sentence("or end behind moves: no MEN)");
        good("moves 2;", 0).due(2, "about", 1).due(0, "about", 0);
        good("moves 4;", 0).due(4, "about", 1).due(0, "about", 0).due(NONE, "does", 0);
        good("moves 3; \n", 0).due(3, "about", 1);
    }

    private static void edgeBounds() {
        sentence("edge (a MOVE; 0)");
        for (int moves = 2; moves <= 4; moves++) {
            String head = "moves " + moves + ";men 1;rule a left;";
            Trial trial = good(head + "edge 0;man 0 does 1;", 1);
            trial.call("run", 1);
            trial.row("0");
            trial = good(head + "edge " + (moves - 1) + ";", 1);
            trial.call("run", 1);
            trial.row("" + (moves - 1));
            fault(4, head + "edge ^" + moves + ";");
            fault(4, head + "edge ^9999;");
            trial = good(head + "man 0 does 1;", 1);
            trial.call("run", 1);
            trial.row("0");
        }
    }

    private static void worthBounds() {
        sentence("worth (as many N, 0 .. 99, as MOVES");
        for (int moves = 2; moves <= 4; moves++) {
            String head = "moves " + moves + ";men 1;";
            String less = head + "worth" + " 99".repeat(moves - 1);
            fault(2, less + "^;");
            fault(4, less + " ^100;");
            fault(4, less + " ^9999;");
            good(less + " 0;man 0 does " + (moves - 1) + ";", 1).due(0, "worth").due(moves - 1, "order", 0, 0).due(99, "worth");
            good(less + " 99;man 0 does " + (moves - 1) + ";", 1).due(99, "worth");
            fault(2, less + " 0 ^0;");
            fault(4, head + "worth ^100" + " 0".repeat(moves - 1) + ";");
        }
        fault(2, "moves 2;men 1;worth^;");
    }

    private static void worthUntold() {
        sentence("0, 1, 2, .. if not told");
        for (int move = 0; move < 4; move++) {
            Trial.of("moves 4;men 1;man 0 does " + move + ";").due(move, "worth");
        }
        Trial behind = Trial.of("moves 4;men 1;worth 9 9 9 9;").due(9, "worth").tape("moves 4;men 1;man 0 does 3;");
        behind.due(1, "drill").due(3, "worth");
    }

    private static void ringEdgeWorthOnce() {
        sentence("once each, 6 RULES");
        String[] lines = {"ring;", "edge 1;", "worth 1 2;"};
        for (String first : lines) {
            fault(2, HEAD + first + "^" + first);
            for (String second : lines) {
                if (!first.equals(second)) {
                    good(HEAD + first + second, 3);
                    fault(2, HEAD + first + second + "^" + first);
                }
            }
        }
        fault(2, HEAD + "edge 1;^edge 9;");
        fault(2, HEAD + "worth 1 2;^worth;");
    }

    private static void sixRules() {
        sentence("6 RULES, numbered as told");
        StringBuilder text = new StringBuilder("moves 4;men 1;");
        for (int rule = 0; rule < 6; rule++) {
            text.append("rule ").append((char) ('f' - rule)).append(" own*").append(rule).append("+1;");
            Trial trial = good(text.toString(), 1).due(rule + 1, "about", 2).due(NONE, "made", rule + 1, 0, 0, 0);
            for (int told = 0; told <= rule; told++) {
                trial.due((told * 3 + 1) % 4, "made", told, 0, 3, 0);
            }
        }
        fault(2, text + "^rule g own;");
        fault(2, text + "ring;^rule g own;");
        fault(2, text + "^rule");
        good(text + "ring;man 0 does 1 by a;", 1);
    }

    private static String units(int count) {
        return "1" + "+1".repeat(count - 1);
    }

    private static void ninetyUnits() {
        sentence("90 units in all");
        String sixty = HEAD + "rule a " + units(30) + ";rule b " + units(30) + ";";
        good(sixty + "rule c " + units(29) + ";", 3).due(89, "about", 9);
        good(sixty + "rule c " + units(30) + ";", 3).due(90, "about", 9);
        fault(2, sixty + "rule c " + units(30) + ";rule d ^1;");
        good(sixty + "rule c " + units(29) + ";rule d 1;", 3).due(90, "about", 9);
        fault(2, sixty + "rule c " + units(29) + ";rule d 1+^1;");
        fault(2, sixty + "rule c " + units(29) + ";rule d (^1);");
        good(sixty + "rule c " + units(28) + ";rule d (1);", 3).due(90, "about", 9);
        fault(2, sixty + "rule c " + units(30) + ";rule d ^(1);");
        fault(2, sixty + "rule c " + units(10) + ";rule d " + units(10) + ";rule e " + units(10) + ";rule f not ^own;");
        Trial again = Trial.of(sixty + "rule c " + units(30) + ";").tape(HEAD + "rule a " + units(30) + ";");
        again.due(3, "drill").due(30, "about", 9);
    }

    private static void thirtyUnits() {
        sentence("30 in one");
        good(HEAD + "rule a " + units(29) + ";", 3).due(29, "about", 9);
        good(HEAD + "rule a " + units(30) + ";", 3).due(30, "about", 9);
        fault(2, HEAD + "rule a " + units(30) + "+^1;");
        good(HEAD + "rule a " + units(28) + "+(1);", 3).due(30, "about", 9);
        fault(2, HEAD + "rule a " + units(29) + "+(^1);");
        fault(2, HEAD + "rule a " + units(30) + "+^(1);");
        good(HEAD + "rule a (1)" + "+(1)".repeat(14) + ";", 3).due(30, "about", 9);
        fault(2, HEAD + "rule a (1)" + "+(1)".repeat(14) + "*^own;");
        good(HEAD + "rule a not 1" + " and not 1".repeat(29) + ";", 3).due(30, "about", 9);
        fault(2, HEAD + "rule a not 1" + " and not 1".repeat(29) + " or ^left;");
        good(HEAD + "rule a " + units(30) + ";rule b " + units(30) + ";", 3).due(60, "about", 9);
        fault(2, HEAD + "rule a 1;rule b " + units(30) + "-^right;");
    }

    private static void withinSix() {
        sentence("a unit ( e ), or a one behind not, within 6 others at most");
        for (int mix = 0; mix < 128; mix++) {
            StringBuilder ahead = new StringBuilder();
            StringBuilder behind = new StringBuilder();
            for (int level = 0; level < 7; level++) {
                boolean opens = (mix >> level & 1) != 0;
                ahead.append(opens ? "(" : "not ");
                behind.append(opens ? ")" : "");
            }
            good(HEAD + "rule a " + ahead + "1" + behind + ";", 3);
            fault(2, HEAD + "rule a " + ahead + "^(1)" + behind + ";");
            fault(2, HEAD + "rule a " + ahead + "^not 1" + behind + ";");
        }
        String seven = "(((((((1)))))))";
        good(HEAD + "rule a " + seven + "+" + seven + ";", 3);
        good(HEAD + "rule a ((((((not 1 and (2)))))));", 3);
        fault(2, HEAD + "rule a ((((((not 1 = ^(2)))))));");
        fault(2, HEAD + "rule a ((((((not 1 + 1 * ^(2)))))));");
        good(HEAD + "rule a ((((((1 = (2)))))));", 3);
        good(HEAD + "rule a ((((((not 1 or not 2))))));", 3);
        good(HEAD + "rule a not 1" + " and not 1".repeat(20) + ";", 3);
    }

    private static void menOfLines() {
        sentence("man lines (MEN are 0 .. men - 1, each once");
        for (int men : new int[] {1, 2, 29, 30}) {
            String head = "moves 2;men " + men + ";";
            good(head + "man 0 does 1;", men).due(1, "does", 0);
            good(head + "man " + (men - 1) + " does 1;", men).due(1, "does", men - 1);
            fault(4, head + "man ^" + men + " does 1;");
            fault(4, head + "man ^9999 does 1;");
            fault(3, head + "man 0 does 1;man ^0 does 1;");
            fault(3, head + "man " + (men - 1) + " does 1;man ^" + (men - 1) + " does 0;");
        }
        for (int man = 30; man <= 70; man += 2) {
            fault(4, "moves 2;men 30;man 0 does 1;man ^" + man + " does 1;");
        }
        good(HEAD + "man 2 does 1;man 0 does 1;man 1 does 1;", 3).row("111");
    }

    private static void doesBounds() {
        sentence("does, window: a MOVE");
        for (int moves = 2; moves <= 4; moves++) {
            String head = "moves " + moves + ";men 1;";
            good(head + "man 0 does 0;", 1).row("0");
            good(head + "man 0 does " + (moves - 1) + ";", 1).row("" + (moves - 1));
            fault(4, head + "man 0 does ^" + moves + ";");
            fault(4, head + "man 0 does ^9999;");
        }
    }

    private static void windowBounds() {
        sentence("window: a MOVE;");
        for (int moves = 2; moves <= 4; moves++) {
            String head = "moves " + moves + ";men 1;edge 1;rule a left;man 0 does 1 window ";
            for (int shown = 0; shown < moves; shown += moves - 1) {
                Trial trial = good(head + shown + ";", 1);
                trial.call("run", 1);
                trial.row("" + shown);
            }
            fault(4, head + "^" + moves + ";");
            fault(4, head + "^9999;");
        }
    }

    private static void ruleToldAhead() {
        sentence("NAME: a RULE told ahead");
        fault(5, HEAD + "man 0 does 1 by ^a;");
        fault(5, HEAD + "man 0 does 1 by ^a;rule a own;");
        good(HEAD + "rule a own;man 0 does 1 by a;", 3);
        fault(5, HEAD + "rule a own;man 0 does 1 by ^b;rule b own;");
        good(HEAD + "rule a own;rule b own;man 0 does 1 by b;man 1 does 1 by a;", 3);
        Trial.of(HEAD + "rule a own;").tape(HEAD + "man 0 does 1 by a;").due(NONE, "drill").due(5, "fault", 0);
    }

    private static void manNotTold() {
        sentence("A MAN who is not told does 0");
        good(FOUR, 3).row("000");
        good(FOUR + "man 1 does 3;", 3).row("030");
        Trial again = Trial.of(FOUR + "man 0 does 3;man 1 does 3;man 2 does 3;").row("333").tape(FOUR + "man 1 does 2;");
        again.due(3, "drill").row("020");
    }

    private static void firstRule() {
        sentence("his RULE is the first one, if he has no other");
        Trial told = good(FOUR + "rule a 1;rule b 2;man 0 does 0;man 1 does 0 by b;man 2 does 0 by a;", 3);
        told.call("run", 1);
        told.row("121");
        Trial behind = good(FOUR + "man 0 does 0;rule a 3;rule b 2;", 3);
        behind.call("run", 1);
        behind.row("333");
        behind.tape(FOUR + "rule a 1;rule b 2;").due(3, "drill").due(1, "run", 1).row("111");
    }

    private static void withoutRules() {
        sentence("(without RULES he does what he did)");
        Trial trial = good(FOUR + "edge 3;man 1 does 2;man 2 does 3 turned window 1;", 3);
        trial.call("run", 1);
        trial.row("023");
        trial.call("run", 500);
        trial.row("023").due(0, "round", 0).due(1, "round", 1);
        Trial again = Trial.of(FOUR + "rule a 1;").tape(FOUR + "man 0 does 3;");
        again.due(3, "drill").due(1, "run", 1).row("300");
    }

    /** A fault of each kind, marked, each at its place in a line of its own. */
    private static final String[] WRONG_LINES = {"ring ^!", "edge ^;", "man ^0 does 1;", "man ^3 does 1;", "man 1 does 1 by ^q;"};

    private static void firstByPlace() {
        sentence("FAULTS, the first by its place");
        for (int first = 0; first < 5; first++) {
            for (int second = 0; second < 5; second++) {
                fault(first + 1, HEAD + "man 0 does 1;" + WRONG_LINES[first] + WRONG_LINES[second].replace("^", ""));
            }
        }
    }

    private static void bytesFromZero() {
        sentence("(bytes from 0; the end: the text's length)");
        Trial.faultAt(1, 0, "!");
        Trial.faultAt(1, 1, " !");
        Trial.faultAt(1, 2, "\n !");
        Trial.faultAt(2, 5, "moves");
        Trial.faultAt(2, 6, "moves ");
        Trial.faultAt(2, 9, "moves  \n ");
        Trial.faultAt(2, 7, "moves 2");
        Trial.faultAt(2, 8, "moves 2 ");
        Trial.faultAt(2, 21, HEAD + "rule a ");
        Trial.faultAt(2, 19, HEAD + "man 0");
    }

    private static void leastAtOnePlace() {
        sentence("at one place the least: 1 no TOKEN; 2 one that can't stand there");
        fault(1, "^!");
        fault(1, "moves ^!;");
        fault(1, HEAD + "rule ^! own;");
        fault(1, HEAD + "rule a ^!;");
        fault(1, HEAD + "rule a own ^!;");
        fault(1, HEAD + "man ^! does 1;");
        fault(1, HEAD + "man 0 does 1 by ^!;");
        fault(1, HEAD + "worth 1 1 ^!;");
        fault(1, HEAD + "rule a " + units(30) + "+^!;");
        fault(2, HEAD + "worth 1 1 ^100;");
        fault(2, HEAD + "ring ^9999;");
        fault(2, HEAD + "man 0 does 1 ^7;");
        fault(2, HEAD + "rule a own;man 0 does 1 turned ^a;");
    }

    private static void atTheLinesFirstWord() {
        sentence("(one of a sort too many, a second time, ahead of its time: at the line's first word");
        String six = "rule a 1;rule b 1;rule c 1;rule d 1;rule e 1;rule f 1;";
        fault(2, HEAD + six + "^rule a !");
        fault(2, HEAD + six + "^rule moves;");
        fault(2, HEAD + "ring;^ring !");
        fault(2, HEAD + "edge 0;^edge 7;");
        fault(2, HEAD + "worth 0 0;^worth 100;");
        fault(2, "moves 2;^moves 7;");
        fault(2, HEAD + "^men 77;");
        fault(2, "^men 0;");
        fault(2, "^ring !");
        fault(2, "^rule own;");
        fault(2, "moves 2;^man 0 does 7;");
        fault(2, "moves 2;^worth !");
    }

    private static void worthTooManyThere() {
        sentence("an N of worth too many: there");
        fault(2, "moves 2;men 1;worth 0 0 ^0;");
        fault(2, "moves 2;men 1;worth 0 0 ^0 0;");
        fault(2, "moves 3;men 1;worth 0 0 0 ^0;");
        fault(2, "moves 4;men 1;worth 0 0 0 0 ^0;");
        fault(4, "moves 2;men 1;worth 0 ^100 0;");
    }

    private static void tooManyAtFirstToken() {
        sentence("a unit too many, what is within 7 others: at its first TOKEN, or the not");
        fault(2, HEAD + "rule a " + units(30) + "+^( 1 );");
        fault(2, HEAD + "rule a " + units(30) + "+^left;");
        fault(2, HEAD + "rule a " + units(30) + " and not ^1;");
        fault(2, HEAD + "rule a (((((((1 + ^( 1 ))))))));");
        fault(2, HEAD + "rule a (((((((1 and ^not 1)))))));");
        fault(2, HEAD + "rule a (((((((^not !");
        fault(2, HEAD + "rule a (((((((^( !");
        fault(1, HEAD + "rule a (((((((1 + ^!");
    }

    private static void toldAlready() {
        sentence("3 a NAME told already, a MAN told already");
        fault(3, HEAD + "rule a own;rule ^a own;");
        fault(3, HEAD + "rule a own;rule b own;rule ^a own;");
        fault(3, HEAD + "rule a own;rule b own;rule ^b !");
        good(HEAD + "rule a own;rule aa own;rule b own;rule ab own;rule ba own;", 3);
        good(HEAD + "rule aaaaaaaa own;rule aaaaaaab own;rule baaaaaaa own;rule aaaaaaa own;", 3);
        fault(3, HEAD + "rule azazazaz own;rule ^azazazaz own;");
        fault(3, HEAD + "man 1 does 1;man ^1 does 1;");
        fault(3, HEAD + "man 1 does 1;man 0 does 1;man 2 does 1;man ^0001 !");
        fault(2, HEAD + "man 1 does 1;man ^does 1;");
        Trial again = Trial.of(HEAD + "rule a own;man 1 does 1;").tape(HEAD + "rule a own;man 1 does 1;");
        again.due(3, "drill");
    }

    private static void numbersThatCannotBe() {
        sentence("4 a number that can't be");
        fault(4, "moves ^1");
        fault(4, "moves ^5 !");
        fault(4, "moves 2;men ^0");
        fault(4, "moves 2;men ^31 31;");
        fault(4, HEAD + "edge ^2 !");
        fault(4, HEAD + "worth ^100");
        fault(4, HEAD + "man ^3");
        fault(4, HEAD + "man 0 does ^2");
        fault(4, HEAD + "man 0 does 0 window ^2");
    }

    private static void namesThatNoRuleHas() {
        sentence("5 a NAME that no RULE has");
        fault(5, HEAD + "man 0 does 1 by ^a");
        fault(5, HEAD + "rule a own;man 0 does 1 by ^b !");
        fault(5, HEAD + "rule ab own;man 0 does 1 by ^a;");
        fault(5, HEAD + "rule ab own;man 0 does 1 by ^b;");
        fault(5, HEAD + "rule ab own;man 0 does 1 by ^ba;");
        fault(5, HEAD + "rule a own;man 0 does 1 by ^aa;");
    }
}
