/** The bounds that the document names in its parts 2, 3 and 4: one test for each sentence. */
public final class TermsBoundsTest {
    private static final int NONE = MirrorDrill.NONE;
    private static final int NOT_ONE = -2;
    private static final String LEAST = "(2048*1024*1024)";
    private static final String MOST = "(2048*1024*1024-1)";
    /** By 20 beats its tail and loop are 3,000 together. */
    private static final String LONG_COURSE = "moves 4;men 14;ring;"
        + "rule a (left*44+own*46+right*24+2)*(left+own*6+right*2+8)/4%96;man 0 does 1;man 3 does 1;";

    private TermsBoundsTest() {
    }

    public static void main(String[] args) {
        leftAndRight();
        endsWithoutRing();
        ringOfOne();
        endsOfRing();
        windowAtBothSides();
        turnedAbout();
        allAtOnce();
        moduloMoves();
        intsWrapping();
        cutAndRest();
        byZero();
        relations();
        andOrNot();
        cracked();
        rowAsTold();
        undoTheLatest();
        redoTheLast();
        tillAnotherAct();
        fortyActs();
        tail();
        loop();
        spent();
        spentByLoop();
        moreThanCanBeTold();
        firstBefore();
        endlessRow();
        shortestOrphan();
        longOrphan();
        firstOrphan();
        noOrphan();
        oneToOne();
        keepsInRings();
        keepsAsTold();
        spreadBeats();
        spreadOfWhatIs();
        glintBeats();
        glintMen();
        glintFirstSet();
        glintFirstMoves();
        cracksBeats();
        cracksMen();
        cracksFirstSet();
        cracksFromNowOn();
        noneOrSoAnyway();
        thirtySights();
        toldAndUntold();
        sightBeats();
        withoutActs();
        knownAt();
        sixUnsure();
        fitsOthersAsTold();
        sureInAll();
        wrongNobodyUnsure();
        wrongOneMoreCracked();
        wrongOneMoreWindow();
        Trial.close("TermsBoundsTest");
    }

    private static void sentence(String quoted) {
        Trial.sentence(quoted);
    }

    private static Trial of(String text) {
        return Trial.of(text);
    }

    /** What the row is behind so many beats. */
    private static void behind(int beats, String text, String row) {
        of(text).due(beats, "run", beats).row(row);
    }

    private static void leftAndRight() {
        sentence("LEFT of a MAN is what the MAN ahead of him (by number) does, RIGHT what the one behind him does");
        String men = "man 0 does 1;man 1 does 2;man 2 does 3;man 3 does 1;man 4 does 2;";
        behind(1, "moves 4;men 5;rule a left;" + men, "01231");
        behind(1, "moves 4;men 5;rule a right;" + men, "23120");
        behind(1, "moves 4;men 5;rule a own;" + men, "12312");
    }

    private static void endsWithoutRing() {
        sentence("at the ends of a row without ring both are edge's MOVE");
        for (int edge = 0; edge < 4; edge++) {
            String head = "moves 4;men 1;edge " + edge + ";";
            behind(1, head + "rule a left;man 0 does 1;", "" + edge);
            behind(1, head + "rule a right;man 0 does 1;", "" + edge);
            head = "moves 4;men 2;edge " + edge + ";";
            behind(1, head + "rule a left;man 0 does 1;man 1 does 2;", edge + "1");
            behind(1, head + "rule a right;man 0 does 1;man 1 does 2;", "2" + edge);
            head = "moves 4;men 30;edge " + edge + ";";
            behind(1, head + "rule a left;man 28 does 3;", edge + "0".repeat(28) + "3");
            behind(1, head + "rule a right;man 1 does 3;", "3" + "0".repeat(28) + edge);
        }
    }

    private static void ringOfOne() {
        sentence("(in a ring of one he sees himself)");
        for (int move = 0; move < 4; move++) {
            String head = "moves 4;men 1;ring;edge 1;man 0 does " + move + ";";
            behind(1, head + "rule a left;", "" + move);
            behind(1, head + "rule a right;", "" + move);
            behind(1, head + "rule a left+right;", "" + 2 * move % 4);
            behind(1, "moves 4;men 1;edge 1;man 0 does " + move + ";rule a left+right;", "2");
        }
    }

    private static void endsOfRing() {
        sentence("in a row or a ring");
        behind(1, "moves 4;men 2;ring;edge 3;rule a left;man 0 does 1;man 1 does 2;", "21");
        behind(1, "moves 4;men 2;ring;edge 3;rule a right;man 0 does 1;man 1 does 2;", "21");
        behind(1, "moves 4;men 2;ring;edge 3;rule a left-right;man 0 does 1;man 1 does 2;", "00");
        behind(1, "moves 4;men 3;ring;rule a left;man 0 does 1;man 1 does 2;man 2 does 3;", "312");
        behind(1, "moves 4;men 3;ring;rule a right;man 0 does 1;man 1 does 2;man 2 does 3;", "231");
        behind(1, "moves 4;men 30;ring;rule a left;man 29 does 3;", "3" + "0".repeat(29));
        behind(1, "moves 4;men 30;ring;rule a right;man 0 does 3;", "0".repeat(29) + "3");
        behind(500, "moves 4;men 30;ring;rule a right;man 0 does 3;man 29 does 2;", "0".repeat(9) + "23" + "0".repeat(19));
    }

    private static void windowAtBothSides() {
        sentence("a MAN with a window sees its MOVE at both sides");
        String[] rings = {"", "ring;"};
        for (String ring : rings) {
            for (int shown = 0; shown < 4; shown++) {
                String head = "moves 4;men 3;edge 1;" + ring + "rule l left;rule r right;rule o own;";
                String row = head + "man 0 does 2 by o;man 1 does 3 by o;man 2 does 1 by o";
                for (int man = 0; man < 3; man++) {
                    String told = "man " + man + " does " + "231".charAt(man) + " by ";
                    String left = row.replace(told + "o", told + "l window " + shown) + ";";
                    String right = row.replace(told + "o", told + "r window " + shown) + ";";
                    String want = "231".substring(0, man) + shown + "231".substring(man + 1);
                    behind(1, left, want);
                    behind(1, right, want);
                }
                behind(1, "moves 4;men 1;edge 1;" + ring + "rule a left;man 0 does 2 window " + shown + ";", "" + shown);
                behind(1, "moves 4;men 1;edge 1;" + ring + "rule a right;man 0 does 2 window " + shown + ";", "" + shown);
                behind(1, "moves 4;men 1;edge 1;" + ring + "rule a own;man 0 does 2 window " + shown + ";", "2");
            }
        }
    }

    private static void turnedAbout() {
        sentence("one who is turned has LEFT and RIGHT changed about");
        String men = "man 0 does 0 turned;man 1 does 1 turned;man 2 does 2 turned;";
        behind(1, "moves 4;men 3;edge 3;rule a left;" + men, "123");
        behind(1, "moves 4;men 3;edge 3;rule a right;" + men, "301");
        behind(1, "moves 4;men 3;edge 3;ring;rule a left;" + men, "120");
        behind(1, "moves 4;men 3;edge 3;ring;rule a right;" + men, "201");
        behind(1, "moves 4;men 3;edge 3;rule a own;" + men, "012");
        behind(1, "moves 4;men 3;edge 3;rule a left;man 0 does 0;man 1 does 1 turned;man 2 does 2;", "321");
        behind(1, "moves 4;men 1;edge 3;rule a left*2+right;man 0 does 0 turned;", "1");
        behind(1, "moves 4;men 2;rule a left*2+right;man 0 does 0 turned window 3;man 1 does 1;", "10");
        behind(1, "moves 4;men 30;rule a left;man 29 does 1 turned;man 28 does 2 turned;", "0".repeat(28) + "10");
    }

    private static void allAtOnce() {
        sentence("A BEAT: all MEN at once do what comes of e by left, own, right (of his RULE)");
        behind(1, "moves 2;men 4;rule a left;man 0 does 1;", "0100");
        behind(3, "moves 2;men 4;rule a left;man 0 does 1;", "0001");
        behind(1, "moves 4;men 3;rule a left+1;rule b right+2;rule c own+3;man 0 does 1 by a;man 1 does 1 by b;man 2 does 2 by c;",
            "101");
        behind(0, "moves 2;men 4;rule a left;man 0 does 1;", "1000");
    }

    private static void moduloMoves() {
        sentence("modulo moves (0 .. moves - 1;");
        for (int moves = 2; moves <= 4; moves++) {
            for (int number = -2 * moves - 1; number <= 2 * moves + 1; number++) {
                String formula = number < 0 ? "0-" + -number : "" + number;
                Trial trial = of("moves " + moves + ";men 1;rule a " + formula + ";");
                trial.due(Math.floorMod(number, moves), "made", 0, 0, 0, 0);
                trial.due(1, "run", 1).due(Math.floorMod(number, moves), "does", 0);
            }
        }
        Trial three = of("moves 3;men 1;rule a " + LEAST + ";rule b " + MOST + ";");
        three.due(Math.floorMod(Integer.MIN_VALUE, 3), "made", 0, 0, 0, 0);
        three.due(Math.floorMod(Integer.MAX_VALUE, 3), "made", 1, 0, 0, 0);
    }

    private static void intsWrapping() {
        sentence("ints, wrapping");
        Trial.makes(1, LEAST + " < 0");
        Trial.makes(1, MOST + " > 0");
        Trial.makes(1, MOST + " + 1 = " + LEAST);
        Trial.makes(1, LEAST + " - 1 = " + MOST);
        Trial.makes(1, "0 - " + LEAST + " = " + LEAST);
        Trial.makes(1, LEAST + " * 2 = 0");
        Trial.makes(1, MOST + " * 2 = 0 - 2");
        Trial.makes(1, LEAST + " / (0 - 1) = " + LEAST);
        Trial.makes(1, LEAST + " % (0 - 1) = 0");
        Trial.makes(1, MOST + " > " + LEAST);
        Trial.makes(3, MOST);
        Trial.makes(Math.floorMod(9999 * 9999 * 9999 * 9999 + 3, 4), "9999 * 9999 * 9999 * 9999 + 3");
    }

    private static void cutAndRest() {
        sentence("/ cut, % its rest");
        int[] numbers = {-7, -6, -1, 0, 1, 6, 7};
        int[] by = {-7, -2, -1, 1, 2, 3, 7};
        for (int a : numbers) {
            for (int b : by) {
                String one = "(" + (a < 0 ? "0-" + -a : "" + a) + ")";
                String other = "(" + (b < 0 ? "0-" + -b : "" + b) + ")";
                int cut = Math.abs(a) / Math.abs(b) * Integer.signum(a) * Integer.signum(b);
                Trial.makes(1, one + "/" + other + "=0+" + (cut < 0 ? "(0-" + -cut + ")" : "" + cut));
                Trial.makes(1, one + "%" + other + "=" + one + "-" + one + "/" + other + "*" + other);
            }
        }
        Trial.makes(1, "(0-7)%2=0-1 and 7%(0-2)=1");
    }

    private static void byZero() {
        sentence("both by 0: 0");
        for (String number : new String[] {"0", "1", "7", "(0-7)", "own", LEAST, MOST}) {
            Trial.makes(1, number + " / 0 = 0");
            Trial.makes(1, number + " % 0 = 0");
            Trial.makes(1, number + " / (own-2) = 0");
            Trial.makes(1, number + " % (own-2) = 0");
        }
        Trial.makes(3, "7 / 1 + 0 % 1");
        Trial.makes(3, "3 + 7 / 0");
        Trial.makes(3, "3 + 7 % 0");
    }

    private static void relations() {
        sentence("relations, and, or, not are 1 or 0");
        for (int a = -2; a <= 2; a++) {
            for (int b = -2; b <= 2; b++) {
                String one = a + 3 + "-3";
                String other = b + 3 + "-3";
                Trial.makes(a < b ? 1 : 0, one + " < " + other);
                Trial.makes(a > b ? 1 : 0, one + " > " + other);
                Trial.makes(a == b ? 1 : 0, one + " = " + other);
            }
        }
        Trial.makes(3, "(2 < 3) + (3 > 2) + (2 = 2)");
        Trial.makes(0, "(3 < 2) + (2 > 3) + (2 = 3)");
    }

    private static void andOrNot() {
        sentence("and, or, not are 1 or 0, of what is not 0");
        int[] numbers = {-4, -1, 0, 1, 2, 4};
        for (int a : numbers) {
            String one = "(" + (a + 5) + "-5)";
            Trial.makes(a == 0 ? 1 : 0, "not " + one);
            Trial.makes(a != 0 ? 1 : 0, "not not " + one);
            for (int b : numbers) {
                String other = "(" + (b + 5) + "-5)";
                Trial.makes(a != 0 && b != 0 ? 1 : 0, one + " and " + other);
                Trial.makes(a != 0 || b != 0 ? 1 : 0, one + " or " + other);
            }
        }
        Trial.makes(1, "2 and 2 and 2");
        Trial.makes(0, "2 and 2 and 0");
        Trial.makes(1, "0 or 0 or 2");
        Trial.makes(1, "1 or 1 and 0");
    }

    private static void cracked() {
        sentence("who is cracked does what he did");
        behind(5, "moves 4;men 3;rule a own+1;man 0 does 2 cracked;man 1 does 1;man 2 does 3 cracked;", "223");
        behind(5, "moves 4;men 1;rule a own+1;man 0 does 2 turned cracked window 3;", "2");
        behind(5, "moves 4;men 2;ring;rule a left+1;man 0 does 2 cracked window 3;man 1 does 2;", "23");
        Trial ordered = of("moves 4;men 1;rule a own+1;man 0 does 2 cracked;").due(2, "order", 0, 3);
        ordered.due(9, "run", 9).row("3");
    }

    private static void rowAsTold() {
        sentence("In earnest there is THE ROW (as told at first).");
        of("moves 4;men 4;rule a own+1;man 0 does 3;man 3 does 1 cracked;").row("3001").due(0, "about", 3);
        Trial.fresh().row("").due(0, "about", 3);
    }

    private static void undoTheLatest() {
        sentence("UNDO takes back the latest ACT that was not");
        Trial trial = of("moves 4;men 2;rule a own+1;").refused(0, "undo");
        trial.due(1, "run", 1).due(1, "order", 0, 3).due(3, "run", 2).row("13");
        trial.due(1, "undo").row("31").due(1, "about", 3).due(1, "undo").row("11").due(1, "about", 3);
        trial.due(1, "undo").row("00").due(0, "about", 3).refused(0, "undo");
        trial.due(1, "redo").row("11").due(1, "undo").row("00").due(0, "undo");
    }

    private static void redoTheLast() {
        sentence("REDO does that again which was taken back last");
        Trial trial = of("moves 4;men 2;rule a own+1;").refused(0, "redo");
        trial.due(1, "run", 1).due(1, "order", 0, 3).due(3, "run", 2).refused(0, "redo");
        trial.times(3, "undo").due(3, "about", 5).due(1, "redo").row("11").due(1, "about", 3);
        trial.due(1, "redo").row("31").due(1, "redo").row("13").due(3, "about", 3).refused(0, "redo");
    }

    private static void tillAnotherAct() {
        sentence("(till another ACT)");
        String text = "moves 4;men 2;rule a own+1;";
        Trial run = of(text).times(2, "run", 1).due(1, "undo").due(1, "about", 5).due(4, "run", 3);
        run.due(0, "about", 5).refused(0, "redo").due(2, "about", 4);
        Trial none = of(text).times(2, "run", 1).due(1, "undo").due(1, "run", 0).due(0, "about", 5).refused(0, "redo");
        none.due(2, "about", 4);
        Trial order = of(text).times(2, "run", 1).due(1, "undo").due(1, "order", 0, 1).due(0, "about", 5).refused(0, "redo");
        order.due(2, "about", 4);
        Trial wrong = of(text).times(2, "run", 1).due(1, "undo");
        wrong.refused(NONE, "run", 501).refused(NONE, "run", -1).refused(NONE, "order", 2, 0).refused(NONE, "order", 0, 4);
        wrong.due(1, "redo").row("22");
    }

    private static void fortyActs() {
        sentence("40 at most are kept, the oldest go");
        for (int acts = 39; acts <= 42; acts++) {
            int kept = Math.min(acts, 40);
            Trial trial = of("moves 4;men 1;rule a own+1;").times(acts, "run", 1).due(kept, "about", 4);
            for (int i = 0; i < kept; i++) {
                trial.due(1, "undo");
            }
            trial.due(0, "undo").due(acts - kept, "about", 3).row("" + (acts - kept) % 4).due(kept, "about", 5);
            for (int i = 0; i < kept; i++) {
                trial.due(1, "redo");
            }
            trial.due(0, "redo").due(acts, "about", 3).row("" + acts % 4);
        }
        Trial orders = of("moves 4;men 1;").times(1, "order", 0, 1).times(1, "order", 0, 2).times(40, "order", 0, 3);
        orders.due(40, "about", 4).times(40, "undo").row("2").due(0, "undo");
    }

    private static void tail() {
        sentence("TAIL: the first BEAT (0: now) at which a ROW is that comes again");
        Trial trial = of("moves 2;men 5;rule a left;man 0 does 1;").due(5, "round", 0).due(1, "round", 1);
        for (int beat = 1; beat <= 5; beat++) {
            trial.due(beat, "run", 1).due(5 - beat, "round", 0).due(1, "round", 1);
        }
        trial.due(6, "run", 1).due(0, "round", 0).due(1, "round", 1);
    }

    private static void loop() {
        sentence("LOOP: how many BEATS later it does.");
        of("moves 2;men 3;").due(0, "round", 0).due(1, "round", 1);
        of("moves 2;men 3;rule a own;man 1 does 1;").due(0, "round", 0).due(1, "round", 1);
        of("moves 4;men 1;rule a own+2;").due(0, "round", 0).due(2, "round", 1);
        of("moves 3;men 1;rule a own+1;").due(0, "round", 0).due(3, "round", 1);
        of("moves 2;men 30;ring;rule a left;man 0 does 1;").due(0, "round", 0).due(30, "round", 1);
        of("moves 4;men 30;ring;rule a left;man 0 does 1;man 15 does 1;").due(0, "round", 0).due(15, "round", 1);
        Trial.fresh().due(0, "round", 0).due(1, "round", 1);
    }

    private static void spent() {
        sentence("SPENT, if TAIL and LOOP are above 3,000 together.");
        Trial trial = of(LONG_COURSE).due(19, "run", 19);
        trial.due(-2, "round", 0).due(-2, "round", 1).due(NONE, "round", 2);
        trial.due(20, "run", 1).due(221, "round", 0).due(2779, "round", 1).due(NONE, "round", 2);
        trial.due(21, "run", 1).due(220, "round", 0).due(2779, "round", 1);
        trial.due(1, "undo").due(1, "undo").due(-2, "round", 0);
    }

    private static void spentByLoop() {
        sentence("if TAIL and LOOP are above 3,000 together");
        Trial of2999 = of("moves 4;men 16;rule a (left*42+own*11+right*40+4)*(left+own*6+right*7+8)/4%91;man 0 does 1;man 3 does 1;");
        of2999.due(114, "run", 114).due(-2, "round", 0).due(-2, "round", 1).due(115, "run", 1).due(1, "round", 0);
        of2999.due(2999, "round", 1).due(116, "run", 1).due(0, "round", 0).due(2999, "round", 1);
        Trial of3000 = of("moves 4;men 12;ring;rule a (left*49+own*32+right*17+7)*(left*4+own*3+1)/2%86;man 0 does 1;");
        of3000.due(-2, "round", 0).due(-2, "round", 1).due(1, "run", 1).due(0, "round", 0).due(3000, "round", 1);
        of3000.due(501, "run", 500).due(0, "round", 0).due(3000, "round", 1);
        of("moves 4;men 17;ring;rule a (left*19+own*46+right*37)*(left+own*6+right+8)/4%64;man 0 does 1;man 3 does 1;")
            .due(0, "round", 0).due(3000, "round", 1);
        Trial of3001 = of("moves 4;men 13;rule a (left*24+own*5+right*16+2)*(left*7+own*6+right*7+4)/5%83;man 0 does 1;man 3 does 1;");
        Trial of1 = of("moves 4;men 17;ring;rule a (left*12+own*7+right*45+4)*(left*3+own*5+right*3+3)%63;man 0 does 1;");
        of1.due(95, "run", 95).due(-2, "round", 0).due(-2, "round", 1).due(96, "run", 1).due(2999, "round", 0).due(1, "round", 1);
        of3001.due(47, "run", 47).due(-2, "round", 0).due(-2, "round", 1).due(547, "run", 500).due(-2, "round", 0);
    }

    /** From a man on, each two did no more than 3 together: ten ways for each. */
    private static String tens(String first, int from) {
        StringBuilder text = new StringBuilder("moves 4;men 30;rule a own+right>3;rule z 0;").append(first);
        for (int man = from + 1; man < 30; man += 2) {
            text.append("man ").append(man).append(" does 0 by z;");
        }
        return text.toString();
    }

    private static void moreThanCanBeTold() {
        sentence("how many (1,000,000,000,000,000 if there are more)");
        of("moves 4;men 24;rule a 0;").due(1L << 48, "before");
        of(tens("rule b own>2;rule c left*16+own*4+right>36;man 0 does 0 by b;man 1 does 0 by b;man 2 does 0 by b;"
            + "man 3 does 0 by z;man 4 does 0 by c;man 5 does 0 by z;", 6)).due(999000000000000L, "before");
        of(tens("", 0)).due(1000000000000000L, "before").due(30, "about", 11);
        of(tens("rule b own+right>4;man 0 does 0 by b;", 0)).due(1000000000000000L, "before").due(30, "about", 11);
        of("moves 4;men 25;rule a 0;").due(1000000000000000L, "before").due(25, "about", 11);
        of("moves 4;men 30;rule a 0;").due(1000000000000000L, "before").due(30, "about", 11);
        of("moves 4;men 30;ring;rule a 0;").due(1000000000000000L, "before").due(30, "about", 11);
    }

    private static void firstBefore() {
        sentence("the first (MAN 0 counts most).");
        of("moves 2;men 2;rule a own and right or own=0 and left;rule b 1;man 0 does 0;man 1 does 1 by b;")
            .due(3, "before").lie(0, 0);
        of("moves 4;men 2;rule a own+right=3;rule b 1;man 0 does 1;man 1 does 1 by b;").due(4, "before").lie(0, 3);
        of("moves 4;men 2;rule a 1;rule b left+own=3;man 0 does 1;man 1 does 1 by b;").due(4, "before").lie(0, 3);
        of("moves 4;men 3;ring;rule a left+own+right;man 0 does 3;man 1 does 3;man 2 does 3;").due(16, "before").lie(0, 0, 3);
        of("moves 3;men 1;rule a own*own;man 0 does 1;").due(2, "before").lie(1);
    }

    private static void endlessRow() {
        sentence("in an endless row (to both sides) all do by it, none turned, cracked, with a window");
        Trial trial = of("moves 2;men 1;edge 1;rule a left and right;rule b left;man 0 does 1 by b turned cracked window 1;");
        trial.due(5, "orphan", 0).lie(1, 0, 0, 0, 1).due(0, "one", 0).due(0, "keeps", 0);
        trial.due(0, "orphan", 1).due(1, "one", 1).due(1, "keeps", 1);
        trial.tape("moves 2;men 30;ring;rule a left and right;rule b left;").due(30, "drill");
        trial.due(5, "orphan", 0).lie(1, 0, 0, 0, 1).due(0, "one", 0).due(0, "keeps", 0);
        trial.due(0, "orphan", 1).due(1, "one", 1).due(1, "keeps", 1);
    }

    private static void shortestOrphan() {
        sentence("ORPHAN: the shortest row of MOVES that never stands in an endless row behind a BEAT");
        Trial trial = of("moves 2;men 1;rule a 0;rule b 1;rule c left and not own;rule d left and own and right;"
            + "rule e left+own+right>1;");
        trial.due(1, "orphan", 0).lie(1).due(1, "orphan", 1).lie(0);
        trial.due(2, "orphan", 2).lie(1, 1).due(3, "orphan", 3).lie(1, 0, 1);
        trial.due(5, "orphan", 4).lie(0, 1, 0, 0, 1);
    }

    /** An orphan can be longer than a row of men. */
    private static void longOrphan() {
        sentence("the shortest row of MOVES that never stands in an endless row");
        Trial trial = of("moves 4;men 1;rule a left+right+(left=3 and own=3 and right=3)*2;"
            + "rule b left+own*2+right+(left=2 and own=2 and right=2)*2;"
            + "rule c left+own*3+right*3+(left=1 and own=1 and right=1)*2;"
            + "rule d left+right+(left=3 and own=2 and right=3)*3;rule e own;");
        String[] want = {"2002020021020210202120230212021021202", "010101020303011010100101010203030",
            "3032303130303132303032313231313", "222200222212222002222", ""};
        for (int rule = 0; rule < 5; rule++) {
            trial.due(want[rule].length(), "orphan", rule);
            int[] lies = new int[want[rule].length()];
            for (int i = 0; i < lies.length; i++) {
                lies[i] = want[rule].charAt(i) - '0';
            }
            trial.lie(lies);
        }
        of("moves 3;men 1;rule a left*right+own;").due(8, "orphan", 0).lie(0, 1, 1, 0, 1, 1, 0, 1);
    }

    private static void firstOrphan() {
        sentence("of like ones the first; none, if there is none.");
        of("moves 4;men 1;rule a 0;").due(1, "orphan", 0).lie(1);
        of("moves 4;men 1;rule a 1;").due(1, "orphan", 0).lie(0);
        of("moves 4;men 1;rule a own%2*3;").due(1, "orphan", 0).lie(1);
        of("moves 3;men 1;rule a left*own;rule b own<2;").due(1, "orphan", 1).lie(2);
    }

    private static void noOrphan() {
        sentence("none, if there is none. ONE TO ONE");
        of("moves 4;men 1;rule a own;rule b left+right;").due(0, "orphan", 0).lie().due(0, "orphan", 1).lie();
        Trial trial = of("moves 2;men 1;rule a own;rule b left;rule c right;rule d left+right;rule e not own;rule f left+own*right;");
        for (int rule = 0; rule < 6; rule++) {
            trial.due(0, "orphan", rule).lie();
        }
    }

    private static void oneToOne() {
        sentence("ONE TO ONE: no two unlike endless rows are alike behind a BEAT.");
        Trial trial = of("moves 2;men 1;rule a left;rule b own;rule c right;rule d not left;rule e left+right;rule f left and own;");
        int[] want = {1, 1, 1, 1, 0, 0};
        for (int rule = 0; rule < 6; rule++) {
            trial.due(want[rule], "one", rule);
        }
        trial = of("moves 4;men 1;rule a own/2*2+left%2;rule b own/2*2+left/2;rule c own+2*(left%2);rule d own*2;rule e own*3;");
        int[] more = {1, 0, 1, 0, 1};
        for (int rule = 0; rule < 5; rule++) {
            trial.due(more[rule], "one", rule);
        }
    }

    /** Up to four men are told apart here: a rule that keeps in rings of one to four keeps in all. */
    private static void keepsInRings() {
        sentence("KEEPS: in all rings of 1 to 6 men all WORTH together");
        Trial trial = of("moves 2;men 1;rule a 1;rule b left and own and right;rule c left and right or own and not left and not right;"
            + "rule d left and not own or own and right;");
        trial.due(0, "keeps", 0).due(0, "keeps", 1).due(0, "keeps", 2).due(1, "keeps", 3);
        of("moves 3;men 1;rule a own+(left=0 and own=1 and right=2)-(left=1 and own=2 and right=0);rule b own;")
            .due(0, "keeps", 0).due(1, "keeps", 1);
        of("moves 2;men 1;rule a right;rule b own+(left+own+right=0);rule c own-(left*own*right=1);")
            .due(1, "keeps", 0).due(0, "keeps", 1).due(0, "keeps", 2);
        of("moves 4;men 1;rule a left;rule b right;rule c own-(left*own*right=27);")
            .due(1, "keeps", 0).due(1, "keeps", 1).due(0, "keeps", 2);
    }

    private static void keepsAsTold() {
        sentence("(of MOVES, as told) is the same behind a BEAT.");
        of("moves 2;men 1;rule a not own;rule b left;").due(0, "keeps", 0).due(1, "keeps", 1);
        of("moves 2;men 1;worth 7 7;rule a not own;rule b left;").due(1, "keeps", 0).due(1, "keeps", 1);
        of("moves 2;men 1;worth 0 99;rule a not own;rule b left;").due(0, "keeps", 0).due(1, "keeps", 1);
        of("moves 4;men 1;rule a own/2*2+1-own%2;").due(0, "keeps", 0);
        of("moves 4;men 1;worth 3 3 8 8;rule a own/2*2+1-own%2;").due(1, "keeps", 0);
        of("moves 4;men 1;worth 3 3 8 9;rule a own/2*2+1-own%2;").due(0, "keeps", 0);
    }

    private static void spreadBeats() {
        sentence("SPREAD of a MAN, a MOVE and n BEATS (0 .. 200)");
        Trial trial = of("moves 4;men 2;rule a own;rule b left+own;man 1 does 0 by b;");
        trial.refused(NONE, "spread", 0, 1, -1).due(1, "spread", 0, 1, 0).due(2, "spread", 0, 1, 1);
        trial.due(2, "spread", 0, 1, 199).due(1, "spread", 0, 1, 200).refused(NONE, "spread", 0, 1, 201);
    }

    private static void spreadOfWhatIs() {
        sentence("how many MEN do another MOVE then than without it, if that MAN did that MOVE now.");
        Trial trial = of("moves 4;men 30;ring;rule a left+own+right;man 0 does 2;").due(0, "spread", 0, 2, 200);
        trial.due(1, "spread", 0, 3, 0).due(3, "spread", 0, 3, 1).due(0, "about", 3).due(0, "about", 4).due(2, "does", 0);
        of("moves 2;men 30;ring;rule a left or own or right;").due(29, "spread", 0, 1, 14).due(30, "spread", 0, 1, 15);
        of("moves 2;men 5;rule a left;").due(1, "spread", 0, 1, 4).due(0, "spread", 0, 1, 5);
        of("moves 2;men 5;rule a left;").due(0, "order", 4, 1).due(1, "spread", 4, 0, 0).due(0, "spread", 4, 1, 0);
    }

    private static void glintBeats() {
        sentence("GLINT for a MAN, a MOVE and n (0 .. 8)");
        Trial trial = of("moves 4;men 30;rule a right+1;");
        trial.due(-2, "glint", 0, 1, -1).lie().due(1, "glint", 0, 1, 0).lie(0, 1);
        trial.due(0, "glint", 0, 0, 0).lie().due(0, "glint", 0, 1, 1).lie().due(1, "glint", 0, 2, 1).lie(1, 1);
        trial.due(0, "glint", 0, 3, 7).due(1, "glint", 0, 2, 7).lie(7, 3);
        trial.due(0, "glint", 0, 0, 8).due(1, "glint", 0, 2, 8).lie(8, 2).due(-2, "glint", 0, 2, 9).lie();
        trial.tape("moves 4;men 30;ring;rule a right+1;").due(30, "drill").due(1, "glint", 24, 2, 8).lie(2, 2);
        for (int men = 8; men <= 9; men++) {
            Trial left = of("moves 2;men " + men + ";ring;rule a left;");
            Trial right = of("moves 2;men " + men + ";ring;rule a right;");
            for (int n = 0; n <= 7; n++) {
                left.due(1, "glint", 0, 1, n).lie((men - n) % men, 1).due(1, "glint", men - 1, 1, n).lie(men - 1 - n, 1);
                right.due(1, "glint", 0, 1, n).lie(n, 1).due(1, "glint", men - 1, 1, n).lie((men - 1 + n) % men, 1);
            }
        }
        of("moves 2;men 1;ring;rule a left;").due(1, "glint", 0, 1, 8).lie(0, 1);
        of("moves 2;men 2;ring;rule a left;").due(1, "glint", 0, 1, 8).lie(0, 1).due(1, "glint", 0, 1, 7).lie(1, 1);
        of("moves 2;men 3;ring;rule a left;").due(1, "glint", 0, 1, 8).lie(1, 1).due(1, "glint", 0, 1, 7).lie(2, 1);
        of("moves 2;men 2;rule a left;").due(1, "glint", 1, 1, 1).lie(0, 1).due(NONE, "glint", 1, 1, 8).lie();
    }

    private static void glintMen() {
        sentence("the fewest MEN (3 at most) who must do another MOVE now");
        String[] zeros = {"", "man 1 does 0;", "man 2 does 0;", "man 3 does 0;", "man 4 does 0;"};
        for (int count = 0; count <= 4; count++) {
            StringBuilder text = new StringBuilder("moves 2;men 7;rule a left and own and right;");
            for (int man = 1; man <= 5; man++) {
                text.append(man <= count ? zeros[man] : "man " + man + " does 1;");
            }
            Trial trial = of(text.toString()).due(count <= 3 ? count : NONE, "glint", 3, 1, 2);
            int[][] want = {{}, {1, 1}, {1, 2, 1, 1}, {1, 2, 3, 1, 1, 1}, {}};
            trial.lie(want[count]);
        }
    }

    /** Whether a man does a move behind some beats, with two men ordered another of two moves. */
    private static boolean helps(String text, int one, int other, int[] aim) {
        Trial trial = of(text);
        for (int man : new int[] {one, other}) {
            trial.call("order", man, 1 - (int) trial.call("does", man));
        }
        trial.call("run", aim[2]);
        return trial.call("does", aim[0]) == aim[1];
    }

    private static void glintFirstSet() {
        sentence("of like ones the first set (by MEN's numbers, the least counts most)");
        String text = "moves 2;men 5;rule a left+own;rule b left and right;man 0 does 1 by b;man 1 does 0 by b;"
            + "man 2 does 1 by a;man 3 does 0 by b;man 4 does 0 by a;";
        int[] aim = {3, 1, 4};
        Trial.claim("men 0 and 4 do", helps(text, 0, 4, aim));
        Trial.claim("men 1 and 3 do", helps(text, 1, 3, aim));
        of(text).due(2, "glint", aim).lie(0, 4, 0, 1);
        of("moves 2;men 3;rule a left or own or right;").due(1, "glint", 1, 1, 1).lie(0, 1);
        of("moves 2;men 4;ring;rule a left or own or right;").due(1, "glint", 0, 1, 1).lie(0, 1);
        of("moves 2;men 4;ring;rule a left;").due(1, "glint", 0, 1, 1).lie(3, 1);
    }

    private static void glintFirstMoves() {
        sentence("then the first of their MOVES.");
        of("moves 4;men 3;rule a own>1;").due(1, "glint", 1, 1, 1).lie(1, 2);
        of("moves 4;men 3;rule a own<3;man 1 does 3;").due(1, "glint", 1, 1, 1).lie(1, 0);
        of("moves 4;men 3;rule a left+right=5;").due(2, "glint", 1, 1, 1).lie(0, 2, 2, 3);
        of("moves 4;men 3;rule a left+right=4;").due(2, "glint", 1, 1, 1).lie(0, 2, 1, 3);
        of("moves 4;men 3;rule a left*own*right=6;").due(3, "glint", 1, 1, 1).lie(0, 1, 2, 1, 2, 3);
        of("moves 4;men 3;rule a left*own*right=6;man 0 does 1;").due(2, "glint", 1, 1, 1).lie(1, 2, 2, 3);
    }

    private static void cracksBeats() {
        sentence("CRACKS for these and n (1 .. 30)");
        Trial trial = of("moves 4;men 30;rule a own+1;rule b right;man 0 does 0 by b;");
        trial.due(-2, "cracks", 1, 1, 0).lie().due(-2, "cracks", 1, 1, -1);
        trial.due(0, "cracks", 1, 1, 1).due(1, "cracks", 1, 0, 1).lie(1);
        trial.due(0, "cracks", 1, 2, 30).due(1, "cracks", 1, 0, 30).lie(1).due(-2, "cracks", 1, 0, 31).lie();
        of("moves 2;men 30;rule a right;man 29 does 1;").due(1, "cracks", 0, 1, 30).lie(29);
        of("moves 2;men 30;ring;rule a left;man 0 does 1;").due(0, "cracks", 0, 1, 30).due(1, "cracks", 0, 0, 30).lie(1);
        of("moves 4;men 1;ring;rule a left+right+1;").due(0, "cracks", 0, 3, 30).due(1, "cracks", 0, 0, 30).lie(0)
            .due(NONE, "cracks", 0, 1, 30).lie();
        of("moves 2;men 2;ring;rule a left;man 0 does 1;").due(1, "cracks", 0, 0, 30).lie(1).due(1, "cracks", 1, 1, 30).lie(0);
        of("moves 2;men 3;ring;rule a left;man 0 does 1;").due(0, "cracks", 0, 1, 30).due(1, "cracks", 0, 0, 30).lie(1);
    }

    /** Who is cracked hides all those behind him, so two, one at each side, are always enough. */
    private static void cracksMen() {
        sentence("the fewest MEN (2 at most) who must be cracked from now on so that it is so");
        String text = "moves 2;men 5;rule a left and right;rule b 0;man 2 does 0;";
        of(text + "man 1 does 1;man 3 does 1;").due(0, "cracks", 2, 1, 1).lie();
        of(text + "man 1 does 1 by b cracked;man 3 does 1 by b;").due(1, "cracks", 2, 1, 2).lie(3);
        of(text + "man 1 does 1 by b;man 3 does 1 by b;").due(2, "cracks", 2, 1, 2).lie(1, 3);
        of(text + "man 1 does 1 by b;man 3 does 1 by b;").due(2, "cracks", 2, 1, 30).lie(1, 3);
        of(text + "man 1 does 1 by b;man 3 does 0 by b;").due(NONE, "cracks", 2, 1, 2).lie();
    }

    private static void cracksFirstSet() {
        sentence("of like ones the first set. None, if it can't be");
        of("moves 2;men 5;ring;rule a left and right;rule b left+right;man 0 does 1 by b;man 1 does 1 by b;man 2 does 1 by b;"
            + "man 3 does 0 by a;man 4 does 1 by b;").due(2, "cracks", 3, 1, 4).lie(0, 4);
        for (String two : new String[] {"04", "12", "24"}) {
            StringBuilder text = new StringBuilder("moves 2;men 5;ring;rule a left and right;rule b left+right;");
            for (int man = 0; man < 5; man++) {
                text.append("man ").append(man).append(" does ").append(man == 3 ? "0 by a" : "1 by b");
                text.append(two.indexOf('0' + man) >= 0 ? " cracked;" : ";");
            }
            of(text.toString()).due(4, "run", 4).due(1, "does", 3);
        }
        of("moves 2;men 5;ring;rule a left and right;rule b left+right;man 0 does 1 by b;man 1 does 1 by b;man 2 does 1 by b;"
            + "man 3 does 1 by b;man 4 does 0 by a;").due(2, "cracks", 4, 1, 4).lie(0, 1);
        of("moves 2;men 4;rule a right;man 0 does 1;man 1 does 1;man 2 does 1;man 3 does 1;").due(1, "cracks", 0, 1, 9).lie(0);
    }

    private static void cracksFromNowOn() {
        sentence("who must be cracked from now on");
        Trial trial = of("moves 4;men 1;rule a own+1;").due(0, "cracks", 0, 3, 3).due(1, "cracks", 0, 0, 3).lie(0);
        trial.due(1, "run", 1).due(0, "cracks", 0, 0, 3).due(1, "cracks", 0, 1, 3).lie(0).due(NONE, "cracks", 0, 2, 3).lie();
        trial.due(1, "about", 3).row("1").due(2, "run", 1).row("2");
    }

    private static void noneOrSoAnyway() {
        sentence("None, if it can't be; 0, if it is so anyway.");
        Trial trial = of("moves 3;men 3;rule a own%2;man 0 does 1;");
        trial.due(1, "glint", 1, 1, 1).lie(1, 1).due(NONE, "glint", 1, 2, 1).lie();
        trial.due(1, "glint", 1, 1, 1).lie(1, 1).due(0, "glint", 1, 0, 1).lie();
        trial.due(1, "glint", 1, 1, 1).due(NONE, "cracks", 1, 2, 1).lie();
        trial.due(1, "glint", 1, 1, 1).due(0, "cracks", 1, 0, 1).lie();
        trial.due(0, "glint", 0, 1, 8).lie();
        of("moves 2;men 3;rule a left;").due(NONE, "glint", 0, 1, 1).lie().due(NONE, "glint", 2, 1, 3).lie();
        of("moves 2;men 3;rule a right;").due(NONE, "glint", 2, 1, 1).lie().due(NONE, "glint", 0, 1, 3).lie();
        of("moves 2;men 3;rule a right;").due(NONE, "cracks", 2, 1, 1).lie().due(NONE, "cracks", 0, 1, 3).lie();
    }

    private static void thirtySights() {
        sentence("SIGHTS, 30 at most");
        Trial trial = of("moves 2;men 1;").times(28, "sight", 0, 0, 0).due(28, "about", 6).due(28, "sight", 0, 0, 0);
        trial.due(29, "sight", 0, 0, 0).due(30, "about", 6).refused(NONE, "sight", 0, 0, 0).due(30, "about", 6);
        trial.due(1, "untell", 29).due(30, "about", 6).refused(NONE, "sight", 0, 0, 0);
    }

    private static void toldAndUntold() {
        sentence("are TOLD at a TIME (0 at first, goes on), UNTOLD at a later one or the same");
        Trial trial = of("moves 2;men 1;").due(0, "about", 7).due(0, "sight", 0, 0, 1).due(0, "wrong", 0, 0);
        trial.due(1, "untell", 0).due(1, "wrong", 0, 0).due(1, "wrong", 0, -1).due(1, "wrong", 0, 1);
        trial.due(1, "sight", 0, 0, 1).due(7, "later", 7).due(1, "untell", 1).due(0, "untell", 1);
        trial.due(1, "wrong", 0, -1).due(0, "wrong", 0, 0).due(0, "wrong", 0, 6).due(1, "wrong", 0, 7).due(1, "wrong", 0, 8);
    }

    private static void sightBeats() {
        sentence("behind so many BEATS (0 .. 30) from the beginning");
        Trial trial = of("moves 4;men 1;rule a own+1;");
        trial.refused(NONE, "sight", -1, 0, 0).refused(NONE, "sight", 31, 0, 3);
        trial.due(0, "sight", 0, 0, 0).due(1, "wrong", 0, 0).due(1, "sight", 1, 0, 1).due(1, "wrong", 0, 0);
        trial.due(2, "sight", 29, 0, 1).due(1, "wrong", 0, 0).due(3, "sight", 30, 0, 2).due(1, "wrong", 0, 0);
        trial.due(4, "sight", 30, 0, 3).due(0, "wrong", 0, 0).due(1, "untell", 4).due(1, "wrong", 0, 0);
        trial.due(5, "sight", 0, 0, 1).due(0, "wrong", 0, 0).due(0, "fits", 0);
    }

    private static void withoutActs() {
        sentence("from the beginning, without ACTS, a MAN did a MOVE.");
        Trial trial = of("moves 4;men 1;rule a own+1;").due(0, "order", 0, 3).due(5, "run", 5).due(5, "image", 0);
        trial.due(0, "sight", 0, 0, 0).due(1, "sight", 2, 0, 2).due(1, "wrong", 0, 0).due(1, "fits", 0);
        trial.due(7, "run", 2).due(1, "wrong", 0, 0).due(1, "undo").due(1, "wrong", 0, 0);
        trial.due(5, "back", 0).due(1, "wrong", 0, 0).due(1, "fits", 0);
    }

    private static void knownAt() {
        sentence("As known at k those count that were TOLD at k or before, not UNTOLD at k or before.");
        Trial trial = of("moves 2;men 1;").due(10, "later", 10).due(0, "sight", 0, 0, 1).due(20, "later", 10).due(1, "untell", 0);
        trial.due(1, "fits", 9).due(0, "fits", 10).due(0, "fits", 11).due(0, "fits", 19).due(1, "fits", 20).due(1, "fits", 21);
        trial.due(1, "wrong", 0, 9).due(0, "wrong", 0, 10).due(0, "wrong", 0, 19).due(1, "wrong", 0, 20);
        trial.due(1, "fits", Integer.MIN_VALUE).due(1, "fits", Integer.MAX_VALUE).due(1, "fits", -1).due(1, "fits", 0);
        trial.due(1, "sight", 0, 0, 1).due(0, "fits", Integer.MAX_VALUE).due(0, "fits", 20).due(1, "fits", Integer.MIN_VALUE);
        trial.due(1, "unsure", 1).due(NOT_ONE, "sure", 0, 9).due(1, "sure", 0, 10).due(1, "sure", 0, 19);
    }

    private static void sixUnsure() {
        sentence("UNSURE MEN (as bits, 6 at most)");
        Trial trial = of("moves 4;men 8;").due(5, "unsure", 0b11111).due(1024, "fits", 0).due(6, "unsure", 0b111111);
        trial.due(4096, "fits", 0).refused(NONE, "unsure", 0b1111111).refused(NONE, "unsure", 0b11111111).due(0b111111, "about", 12);
        trial.due(6, "unsure", 0b11111100).due(0b11111100, "about", 12).due(0, "unsure", 0).due(1, "fits", 0);
    }

    private static void fitsOthersAsTold() {
        sentence("FIT: ROWS at first, others as told, by which all that count are so.");
        Trial trial = of("moves 3;men 3;rule a left;man 0 does 2;man 1 does 1;").due(1, "fits", 0);
        trial.due(1, "unsure", 2).due(3, "fits", 0).due(0, "sight", 0, 0, 1).due(0, "fits", 0).due(1, "untell", 0);
        trial.due(1, "sight", 0, 0, 2).due(3, "fits", 0).due(2, "sight", 1, 2, 0).due(1, "fits", 0).due(0, "sure", 1, 0);
        trial.due(2, "unsure", 5).due(0, "fits", 0).due(2, "unsure", 6).due(3, "fits", 0).due(3, "unsure", 7).due(3, "fits", 0);
        Trial.fresh().due(1, "fits", 0);
    }

    private static void sureInAll() {
        sentence("SURE of an UNSURE one: what he did in all that FIT.");
        Trial trial = of("moves 4;men 2;rule a own/2;").due(2, "unsure", 3).due(NOT_ONE, "sure", 0, 0);
        trial.due(0, "sight", 1, 0, 1).due(8, "fits", 0).due(NOT_ONE, "sure", 0, 0).due(NOT_ONE, "sure", 1, 0);
        trial.due(1, "sight", 0, 1, 3).due(2, "fits", 0).due(NOT_ONE, "sure", 0, 0).due(3, "sure", 1, 0);
        trial.due(2, "sight", 0, 0, 2).due(1, "fits", 0).due(2, "sure", 0, 0).due(3, "sure", 1, 0);
        trial.due(3, "sight", 0, 0, 3).due(0, "fits", 0).due(NONE, "sure", 0, 0).due(NONE, "sure", 1, 0);
        of("moves 4;men 1;").due(1, "unsure", 1).due(0, "sight", 0, 0, 0).due(0, "sure", 0, 0);
    }

    private static void wrongNobodyUnsure() {
        sentence("WRONG: what can be wrong, nobody being UNSURE");
        Trial trial = of("moves 2;men 2;rule a own;").due(0, "sight", 0, 0, 1).due(0, "wrong", 0, 0).due(0, "wrong", 1, 0);
        trial.due(1, "unsure", 1).due(1, "fits", 0).due(0, "wrong", 0, 0).due(0, "wrong", 1, 0).due(0, "wrong", 2, 0);
        trial.due(1, "about", 12);
    }

    private static void wrongOneMoreCracked() {
        sentence("or one MAN more is cracked");
        Trial trial = of("moves 4;men 3;rule a own+1;man 2 does 0 cracked;").due(1, "wrong", 0, 0).due(3, "wrong", 1, 0);
        trial.due(0, "sight", 30, 0, 0).due(0, "wrong", 0, 0).due(1, "wrong", 1, 0).due(1, "sight", 1, 1, 1).due(1, "wrong", 1, 0);
        trial.due(2, "sight", 30, 1, 0).due(0, "wrong", 1, 0).due(1, "untell", 0).due(0, "wrong", 1, 0).due(1, "untell", 1);
        trial.due(2, "wrong", 1, 0);
        of("moves 2;men 30;rule a own;").due((1 << 30) - 1, "wrong", 1, 0).due((1 << 30) - 1, "wrong", 2, 0);
        of("moves 2;men 30;rule a 1;man 29 does 0;").due(0, "sight", 1, 29, 0).due(1 << 29, "wrong", 1, 0).due(0, "wrong", 2, 0);
    }

    private static void wrongOneMoreWindow() {
        sentence("(instead of his own window, if he has one, which sees another one)");
        String text = "moves 3;men 3;rule a left;man 0 does 1;man 1 does 0 window 1;man 2 does 0;";
        Trial trial = of(text).due(7, "wrong", 2, 0).due(0, "sight", 1, 1, 1).due(1, "wrong", 0, 0).due(5, "wrong", 2, 0);
        trial.due(1, "untell", 0).due(1, "sight", 1, 1, 2).due(0, "wrong", 0, 0).due(0, "wrong", 1, 0).due(2, "wrong", 2, 0);
        trial.due(1, "untell", 1).due(2, "sight", 1, 2, 2).due(0, "wrong", 0, 0).due(4, "wrong", 2, 0);
        trial.due(1, "untell", 2).due(3, "sight", 1, 0, 0).due(1, "wrong", 0, 0).due(7, "wrong", 2, 0);
        trial.due(4, "sight", 2, 2, 1).due(1, "wrong", 0, 0).due(5, "wrong", 2, 0);
        of("moves 2;men 1;").due(1, "wrong", 2, 0).due(0, "sight", 1, 0, 0).due(1, "wrong", 2, 0).due(1, "sight", 2, 0, 1)
            .due(0, "wrong", 2, 0);
    }
}
