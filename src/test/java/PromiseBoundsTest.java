/** The bounds that the promises name, and what a refused call leaves as it was: one test for each sentence. */
public final class PromiseBoundsTest {
    private static final int NONE = MirrorDrill.NONE;
    private static final int LEAST = Integer.MIN_VALUE;
    private static final int MOST = Integer.MAX_VALUE;
    private static final int[] FAR = {LEAST, LEAST + 1, -65536, -32, 64, 65536, 1 << 30, MOST - 1, MOST};
    /** A ring of five by left + right; the middle man does 1. */
    private static final String FIVE = "moves 2;men 5;ring;rule x left + right;man 2 does 1;";

    private PromiseBoundsTest() {
    }

    public static void main(String[] args) {
        newObject();
        highestFirst();
        feedHowMany();
        feedTooMany();
        endWithAll();
        endHidesTheRest();
        endRefused();
        tapeEmptyThen();
        allAnew();
        nothingLeftOfOthers();
        fewerBehindMore();
        beforeBehindOthers();
        emptyBehindOthers();
        fitsAnew();
        roundAnew();
        timeStays();
        howManyMen();
        allStays();
        faultOfTheLatest();
        faultOfAnother();
        doesNoneSuch();
        madeCannotBe();
        runBounds();
        runBeyond();
        runIsAnAct();
        orderRefused();
        orderIsAnAct();
        undoNone();
        redoNone();
        worthOfTheRow();
        roundOfAnother();
        roundSpent();
        beforeLies();
        orphanNone();
        orphanLies();
        oneNone();
        keepsNone();
        spreadCannotBe();
        glintCannotBe();
        glintLies();
        cracksLikewise();
        liesNoneSuch();
        sightRefused();
        sightFull();
        untellFalse();
        laterBounds();
        laterAbove();
        unsureJustThese();
        unsureRefused();
        fitsHowMany();
        sureOrNot();
        wrongNothing();
        wrongCracked();
        wrongWindow();
        wrongOfAnother();
        imageBoxes();
        imageKept();
        backAsKept();
        backRefused();
        aboutEach();
        aboutAnother();
        farNumbers();
        Trial.close("PromiseBoundsTest");
    }

    private static void sentence(String quoted) {
        Trial.sentence(quoted);
    }

    private static Trial of(String text) {
        return Trial.of(text);
    }

    private static void newObject() {
        sentence("`MirrorDrill()`: An empty DRILL.");
        Trial trial = Trial.fresh();
        for (int what = 0; what <= 12; what++) {
            trial.due(what == 1 ? 2 : 0, "about", what);
        }
        trial.row("").lie().due(0, "worth").due(0, "fault", 0).due(NONE, "fault", 1).due(0, "round", 0).due(1, "round", 1);
        trial.refused(0, "undo").refused(0, "redo").refused(NONE, "back", 0).refused(NONE, "order", 0, 0);
        trial.refused(NONE, "sight", 0, 0, 0).refused(0, "untell", 0).refused(NONE, "unsure", 1).refused(NONE, "made", 0, 0, 0, 0);
        trial.due(0, "run", 0).due(500, "run", 500).due(2, "about", 4).due(1, "before").lie().due(1, "fits", 0);
        trial.due(0, "drill").due(0, "about", 3);
    }

    private static void highestFirst() {
        sentence("of each number the highest first");
        Trial trial = Trial.fresh().due(20, "feed", 0x6D6F7665, 0x73323B6D, 0x656E3330, 0x3B72696E, 0x673B2020);
        trial.due(30, "drill").due(1, "about", 10);
        trial.due(20, "feed", 0x200A2020, 0x20FF2020, 0, 0, 0).due(NONE, "drill").due(1, "fault", 0).due(5, "fault", 1);
        trial.due(0, "end", 0).due(20, "feed", -1, 0, 0, 0, 0).due(NONE, "drill").due(1, "fault", 0).due(0, "fault", 1);
        trial.due(0, "end", 0).due(20, "feed", 0x20202080, 0, 0, 0, 0).due(NONE, "drill").due(3, "fault", 1);
    }

    private static void feedHowMany() {
        sentence("Twenty bytes come behind those on the TAPE");
        Trial trial = Trial.fresh().due(20, "feed", 0, 0, 0, 0, 0).due(20, "about", 8).due(40, "feed", 0, 0, 0, 0, 0);
        trial.due(7, "end", 7).due(27, "feed", 0, 0, 0, 0, 0).due(27, "about", 8).due(0, "end", 0).due(20, "feed", 0, 0, 0, 0, 0);
        Trial joined = Trial.fresh().tape("moves 3;m").due(29, "feed", 0x656E2034, 0x3B202020, 0x20202020, 0x20202020, 0x20202020);
        joined.due(4, "drill").due(3, "about", 1);
    }

    private static void feedTooMany() {
        sentence("NONE, and nothing comes, if there would be more than 1,600.");
        Trial trial = Trial.fresh().times(79, "feed", 0x20202020, 0x20202020, 0x20202020, 0x20202020, 0x20202020);
        trial.due(1580, "about", 8).due(1600, "feed", 0x20202020, 0x20202020, 0x20202020, 0x20202020, 0x6D6F7665);
        trial.refused(NONE, "feed", 1, 1, 1, 1, 1).due(1600, "about", 8).due(1581, "end", 1581);
        trial.refused(NONE, "feed", 1, 1, 1, 1, 1).due(1581, "about", 8).due(1580, "end", 1580);
        trial.due(1600, "feed", 0x20202020, 0x20202020, 0x20202020, 0x20202020, 0x20202020).refused(NONE, "feed", 1, 1, 1, 1, 1);
        trial.due(0, "drill").due(0, "about", 8).due(20, "feed", 1, 1, 1, 1, 1);
    }

    private static void endWithAll() {
        sentence("The TAPE has its first n bytes: n");
        Trial trial = Trial.fresh().due(0, "end", 0).tape("moves 2;men 3;!").due(14, "end", 14).due(14, "about", 8);
        trial.due(14, "end", 14).due(3, "drill").due(0, "end", 0);
        trial.tape("moves 2;men 3;").due(8, "end", 8).due(0, "drill").due(2, "about", 1);
        trial.tape("!").due(0, "end", 0).due(0, "about", 8).due(0, "drill");
    }

    /** What stood behind the first n bytes is no part of the text, not even directly behind a token. */
    private static void endHidesTheRest() {
        sentence("The TAPE has its first n bytes");
        Trial.fresh().tape("moves 25;").due(7, "end", 7).due(NONE, "drill").due(2, "fault", 0).due(7, "fault", 1);
        Trial.fresh().tape("moves 2x;").due(7, "end", 7).due(NONE, "drill").due(2, "fault", 0).due(7, "fault", 1);
        Trial.fresh().tape("moves 2;men 3;rings;").due(18, "end", 18).due(NONE, "drill").due(2, "fault", 0).due(18, "fault", 1);
        Trial.fresh().tape("moves 2; !").due(8, "end", 8).due(0, "drill");
        Trial.fresh().tape("moves 2;men 3;").due(8, "end", 8).due(0, "drill").due(0, "about", 0);
        String most = "moves 2;men 3;" + " ".repeat(1600 - 14 - 6) + "edge 1";
        Trial.fresh().tape(most).due(NONE, "drill").due(2, "fault", 0).due(1600, "fault", 1);
    }

    private static void endRefused() {
        sentence("NONE, doing nothing, if it has not so many, or n is below 0.");
        Trial trial = Trial.fresh().refused(NONE, "end", 1).refused(NONE, "end", -1).tape("moves 2;men 3;");
        trial.refused(NONE, "end", 15).refused(NONE, "end", -1).refused(NONE, "end", LEAST).refused(NONE, "end", MOST);
        trial.due(14, "about", 8).due(3, "drill").refused(NONE, "end", 14).refused(NONE, "end", 1);
        trial.tape("moves 2;men 3;").due(13, "end", 13).refused(NONE, "end", 14).due(NONE, "drill").due(13, "fault", 1);
    }

    private static void tapeEmptyThen() {
        sentence("The TAPE (empty then) is the DRILL");
        Trial trial = Trial.fresh().tape("moves 3;men 4;").due(14, "about", 8).due(4, "drill").due(0, "about", 8);
        trial.due(0, "drill").due(0, "about", 0).due(2, "about", 1);
        trial.tape("moves 4;").due(0, "drill").due(0, "about", 8).due(4, "about", 1);
    }

    /** An object with something of all that a drill() takes away. */
    private static Trial full() {
        Trial trial = of(FIVE).due(6, "later", 6).due(2, "run", 2).due(1, "order", 0, 0).due(0, "order", 1, 1).due(1, "undo");
        trial.due(0, "sight", 0, 0, 0).due(1, "sight", 1, 1, 0).due(1, "untell", 1).due(2, "unsure", 3);
        return trial.due(2, "image", 0).due(2, "image", 1).due(2, "image", 2).due(1, "glint", 0, 1, 0).lie(0, 1);
    }

    private static void allAnew() {
        sentence("(no ACTS are kept, no BEATS were, SIGHTS are none, nobody is UNSURE, nothing lies there, BOXES are empty then");
        int[] were = {5, 2, 1, 2, 2, 1, 2, 6, 0, 2, 1, 2, 3};
        Trial trial = full();
        for (int what = 0; what <= 12; what++) {
            trial.due(were[what], "about", what);
        }
        trial.tape("moves 3;men 4;rule a own;rule b 1;man 1 does 2;").due(4, "drill");
        int[] are = {4, 3, 2, 0, 0, 0, 0, 6, 0, 2, 0, 0, 0};
        for (int what = 0; what <= 12; what++) {
            trial.due(are[what], "about", what);
        }
        trial.row("0200").lie().refused(0, "undo").refused(0, "redo").refused(0, "untell", 0);
        trial.refused(NONE, "back", 0).refused(NONE, "back", 1).refused(NONE, "back", 2).due(1, "fits", 6).due(NONE, "sure", 0, 6);
        trial.due(0, "sight", 0, 1, 2).due(1, "wrong", 0, 6).due(0, "round", 0).due(1, "round", 1);
    }

    /** A text that tells all that can be told, of men who do the move with the greatest number. */
    private static String rich(int men) {
        StringBuilder text = new StringBuilder("moves 4;men " + men + ";ring;edge 3;worth 9 8 7 6;rule a own+1;rule b (left+2)*3;");
        for (int man = 0; man < men; man++) {
            text.append("man ").append(man).append(" does 3 by b turned").append(man % 2 == 0 ? " cracked" : "");
            text.append(" window 3;");
        }
        return text.toString();
    }

    /** What was told in the drills before, or in a text with a fault, is nowhere left. */
    private static void nothingLeftOfOthers() {
        sentence("The TAPE (empty then) is the DRILL (no ACTS are kept");
        String plain = "moves 4;men 6;rule x left*2+right;rule y own;";
        String[][] ahead = {{}, {rich(6)}, {rich(6), rich(30)}, {rich(30), rich(6), rich(30)}, {rich(6), rich(6) + "oops;"},
            {rich(6), rich(6), rich(30) + "oops;"}, {rich(6) + "man 0;"}};
        for (String[] texts : ahead) {
            Trial trial = Trial.fresh();
            for (String text : texts) {
                trial.tape(text).call("drill");
            }
            trial.tape(plain).due(6, "drill").row("000000").due(0, "worth").due(0, "about", 10).due(4, "about", 9).due(2, "about", 2);
            for (int man = 0; man < 6; man++) {
                trial.due(0, "order", man, (man + 1) % 4);
            }
            trial.due(9, "worth").due(1, "run", 1).row("210322").due(NONE, "made", 2, 0, 0, 0);
        }
    }

    /** An odd number of men, and fewer moves, behind more men and more moves. */
    private static void fewerBehindMore() {
        sentence("is the DRILL (no ACTS are kept, no BEATS were");
        String[][] ahead = {{}, {rich(30)}, {rich(30), rich(30)}, {rich(30), rich(29), rich(30) + "oops;"}};
        for (String[] texts : ahead) {
            Trial trial = Trial.fresh();
            for (String text : texts) {
                trial.tape(text).call("drill");
                trial.times(1, "before").times(1, "orphan", 0).times(1, "one", 1).times(1, "round", 0).times(1, "cracks", 0, 1, 30);
            }
            trial.tape("moves 2;men 5;rule x left+right+1;").due(5, "drill").due(1, "run", 1).row("11111").due(2, "run", 1).row("01110");
            trial.due(3, "run", 1).row("00100").due(4, "run", 1).row("10101").due(1, "fits", 0).due(3, "about", 9);
        }
    }

    private static void beforeBehindOthers() {
        sentence("BEFORE: how many.");
        Trial trial = of("moves 4;men 30;ring;rule a 0;").due(1000000000000000L, "before");
        trial.tape("moves 2;men 3;ring;rule a own;man 1 does 1;").due(3, "drill").due(1, "before").lie(0, 1, 0);
        trial.tape("moves 4;men 30;rule a 0;").due(30, "drill").due(1000000000000000L, "before").due(30, "about", 11);
        trial.tape("moves 2;men 3;ring;rule a left;man 1 does 1;").due(3, "drill").due(1, "before").lie(1, 0, 0);
        trial.tape("moves 3;men 1;ring;rule a left*right;man 0 does 1;").due(1, "drill").due(2, "before").lie(1);
        trial.tape("moves 2;men 2;rule a left;").due(2, "drill").due(2, "before").lie(0, 0);
    }

    private static void emptyBehindOthers() {
        sentence("The TAPE (empty then) is the DRILL");
        String[] ends = {"", "moves 2;", "moves 3;"};
        for (String end : ends) {
            Trial trial = Trial.fresh().tape(rich(6)).due(6, "drill").tape(rich(6)).due(6, "drill").tape(end).due(0, "drill");
            trial.row("").due(end.equals("moves 3;") ? 3 : 2, "about", 1).due(0, "about", 2).due(0, "about", 9).due(0, "about", 10);
            trial.due(0, "worth").due(1, "before").lie().due(0, "round", 0).due(1, "round", 1).due(NONE, "made", 0, 0, 0, 0);
        }
    }

    private static void fitsAnew() {
        sentence("SIGHTS are none, nobody is UNSURE");
        Trial trial = of("moves 4;men 2;").due(2, "unsure", 3).due(16, "fits", 0).due(-2, "sure", 0, 0);
        trial.tape("moves 4;men 2;").due(2, "drill").due(1, "fits", 0).due(NONE, "sure", 0, 0);
        trial.due(0, "sight", 0, 0, 1).due(0, "fits", 0).tape("moves 4;men 2;man 0 does 1;").due(2, "drill").due(1, "fits", 0);
        trial.due(0, "sight", 0, 0, 1).due(1, "fits", 0).due(1, "unsure", 1).due(1, "sure", 0, 0);
    }

    private static void roundAnew() {
        sentence("is the DRILL");
        Trial trial = of("moves 4;men 2;rule a own+1;").due(4, "round", 1).tape("moves 4;men 2;rule a own+2;").due(2, "drill");
        trial.due(2, "round", 1).tape("moves 4;men 2;rule a 1;").due(2, "drill").due(1, "round", 0).due(1, "round", 1);
    }

    private static void timeStays() {
        sentence("the TIME stays): how many MEN");
        Trial trial = of(FIVE).due(1000, "later", 1000).tape("").due(0, "drill").due(1000, "about", 7).due(1001, "later", 1);
        trial.tape("moves 2;men 1;").due(1, "drill").due(1001, "about", 7).due(0, "sight", 0, 0, 1);
        trial.due(1, "wrong", 0, 1000).due(0, "wrong", 0, 1001);
    }

    private static void howManyMen() {
        sentence("how many MEN; NONE: a FAULT");
        Trial trial = Trial.fresh().due(0, "drill").tape("moves 2;").due(0, "drill").tape("moves 2;men 1;").due(1, "drill");
        trial.tape("moves 2;men 30;").due(30, "drill").tape("moves 2;men 31;").refusedDrill(4, 12).due(30, "about", 0);
    }

    private static void allStays() {
        sentence("NONE: a FAULT (all stays).");
        Trial trial = full().tape("moves 3;men 4;ring;rule a left;man 0 does 2 cracked;worth 9 9 9;oops;");
        trial.refusedDrill(2, 64).refusedDrill(2, 64).due(1, "redo").row("01001").due(3, "about", 4);
        trial.due(69, "about", 8).due(2, "back", 2).due(2, "back", 0).due(2, "back", 1).row("00001");
    }

    private static void faultOfTheLatest() {
        sentence("Of the latest drill() what 0: its FAULT (0), 1: its place (NONE).");
        Trial trial = Trial.fresh().due(0, "fault", 0).due(NONE, "fault", 1).tape("moves 9;").due(0, "fault", 0);
        trial.due(NONE, "drill").due(4, "fault", 0).due(6, "fault", 1).due(0, "end", 0).due(4, "fault", 0).due(6, "fault", 1);
        trial.tape("!").due(NONE, "drill").due(1, "fault", 0).due(0, "fault", 1);
        trial.tape("moves 2;").due(0, "drill").due(0, "fault", 0).due(NONE, "fault", 1);
    }

    private static void faultOfAnother() {
        sentence("1: its place (NONE). NONE for another what.");
        Trial trial = Trial.fresh().tape("moves 9;").due(NONE, "drill");
        trial.refused(NONE, "fault", -1).refused(NONE, "fault", 2).refused(NONE, "fault", LEAST).refused(NONE, "fault", MOST);
    }

    private static void doesNoneSuch() {
        sentence("What a MAN does now; NONE if there is none such.");
        of("moves 4;men 1;man 0 does 3;").refused(NONE, "does", -1).due(3, "does", 0).refused(NONE, "does", 1);
        of("moves 4;men 30;man 29 does 3;").refused(NONE, "does", -1).due(3, "does", 29).refused(NONE, "does", 30);
        Trial.fresh().refused(NONE, "does", 0).refused(NONE, "does", -1);
    }

    private static void madeCannotBe() {
        sentence("What a RULE makes of left, own, right; NONE if one can't be.");
        Trial trial = of("moves 3;men 1;rule a left;rule b own;rule c right;");
        trial.due(2, "made", 0, 2, 0, 0).due(2, "made", 1, 0, 2, 0).due(2, "made", 2, 0, 0, 2).due(0, "made", 2, 2, 2, 0);
        trial.refused(NONE, "made", 3, 0, 0, 0).refused(NONE, "made", -1, 0, 0, 0);
        trial.refused(NONE, "made", 0, 3, 0, 0).refused(NONE, "made", 0, -1, 0, 0).refused(NONE, "made", 0, 0, 3, 0);
        trial.refused(NONE, "made", 0, 0, -1, 0).refused(NONE, "made", 0, 0, 0, 3).refused(NONE, "made", 0, 0, 0, -1);
    }

    private static void runBounds() {
        sentence("So many BEATS (0 .. 500) go on: how many there were; NONE, doing nothing, for another number");
        Trial trial = of("moves 4;men 1;rule a own+1;").refused(NONE, "run", -1).refused(NONE, "run", 501);
        trial.due(0, "run", 0).row("0").due(499, "run", 499).row("3").due(999, "run", 500).row("3").due(1000, "run", 1).row("0");
    }

    private static void runBeyond() {
        sentence("or beyond 100,000.");
        Trial trial = of("moves 4;men 1;rule a own+1;").times(199, "run", 500).due(99500, "about", 3);
        trial.due(99999, "run", 499).row("3").refused(NONE, "run", 2).refused(NONE, "run", 500).due(100000, "run", 1).row("0");
        trial.refused(NONE, "run", 1).due(100000, "run", 0).due(1, "undo").due(1, "undo").due(99999, "about", 3);
        trial.due(99999, "image", 0).due(100000, "run", 1).due(99999, "back", 0).row("3").due(100000, "run", 1);
    }

    private static void runIsAnAct() {
        sentence("beyond 100,000. (An ACT.)");
        Trial trial = of("moves 4;men 1;rule a own+1;").due(0, "about", 4).due(0, "run", 0).due(1, "about", 4);
        trial.due(3, "run", 3).due(2, "about", 4).due(1, "undo").due(0, "about", 3).row("0").due(1, "about", 4);
        trial.due(1, "undo").due(0, "about", 4).due(2, "about", 5).due(0, "undo");
    }

    private static void orderRefused() {
        sentence("what he did; NONE, doing nothing, if one can't be.");
        Trial trial = of("moves 3;men 4;man 0 does 1;").due(1, "order", 0, 0).due(0, "order", 3, 2).due(2, "order", 3, 2).row("0002");
        trial.refused(NONE, "order", 4, 0).refused(NONE, "order", -1, 0).refused(NONE, "order", 0, 3).refused(NONE, "order", 0, -1);
    }

    private static void orderIsAnAct() {
        sentence("if one can't be. (An ACT.)");
        Trial trial = of("moves 3;men 2;").due(0, "order", 1, 2).due(1, "about", 4).due(2, "order", 1, 2).due(2, "about", 4);
        trial.due(0, "about", 3).due(1, "undo").row("02").due(1, "undo").row("00").due(1, "redo").row("02");
    }

    private static void undoNone() {
        sentence("UNDO: true; false if there is none.");
        Trial trial = of("moves 3;men 2;").refused(0, "undo").due(0, "order", 0, 1).due(1, "undo").refused(0, "undo");
        trial.due(1, "about", 5).due(1, "redo").row("10");
    }

    private static void redoNone() {
        sentence("REDO: true; false if there is none.");
        Trial trial = of("moves 3;men 2;").refused(0, "redo").due(0, "order", 0, 1).refused(0, "redo").due(1, "undo");
        trial.due(1, "redo").refused(0, "redo").due(1, "about", 4).row("10");
    }

    private static void worthOfTheRow() {
        sentence("WORTH of THE ROW, all together.");
        Trial.fresh().due(0, "worth");
        of("moves 2;men 30;worth 0 99;").due(0, "worth");
        of("moves 2;men 30;worth 99 0;").due(2970, "worth").due(0, "order", 0, 1).due(2871, "worth").due(1, "undo").due(2970, "worth");
        of("moves 4;men 4;worth 1 10 20 90;man 1 does 1;man 2 does 2;man 3 does 3;").due(121, "worth");
    }

    private static void roundOfAnother() {
        sentence("-2 if SPENT; NONE for another what.");
        of(FIVE).due(1, "round", 0).due(3, "round", 1).refused(NONE, "round", 2).refused(NONE, "round", -1);
    }

    private static void roundSpent() {
        sentence("ROUND what 0: TAIL, 1: LOOP; -2 if SPENT");
        Trial trial = of("moves 4;men 30;ring;rule a left*own+right+1;man 0 does 1;");
        trial.due(-2, "round", 0).due(-2, "round", 1).due(NONE, "round", 2).due(NONE, "round", -1).refused(NONE, "round", -2);
    }

    private static void beforeLies() {
        sentence("BEFORE: how many. The first lies there then (behind 0: nothing).");
        Trial trial = of("moves 3;men 2;rule a own%2;").due(4, "before").lie(0, 0).due(0, "order", 0, 2).due(0, "before").lie();
        trial.due(2, "order", 0, 1).due(2, "before").lie(1, 0).due(1, "undo").due(0, "before").lie().due(0, "about", 3);
        Trial.fresh().due(1, "before").lie();
    }

    private static void orphanNone() {
        sentence("ORPHAN of a RULE: how long; 0 if there is none; NONE if there is no such RULE.");
        Trial trial = of("moves 2;men 1;rule a own;rule b 1;").due(0, "orphan", 0).due(1, "orphan", 1).due(NONE, "orphan", 2);
        trial.due(NONE, "orphan", -1);
        of("moves 2;men 1;").due(NONE, "orphan", 0);
        of("moves 2;men 1;rule a 1;rule b 1;rule c 1;rule d 1;rule e 1;rule f 0;").due(1, "orphan", 5).lie(1).due(NONE, "orphan", 6);
    }

    private static void orphanLies() {
        sentence("It lies there then (behind 0, NONE: nothing).");
        Trial trial = of("moves 2;men 1;rule a own;rule b 1;").due(1, "orphan", 1).lie(0).due(0, "orphan", 0).lie();
        trial.due(1, "orphan", 1).lie(0).due(NONE, "orphan", 2).lie().due(1, "orphan", 1).due(NONE, "orphan", -1).lie();
    }

    private static void oneNone() {
        sentence("1 if a RULE is ONE TO ONE, else 0; NONE if there is none such.");
        Trial trial = of("moves 2;men 1;rule a own;rule b 1;").due(1, "one", 0).due(0, "one", 1);
        trial.refused(NONE, "one", 2).refused(NONE, "one", -1);
        Trial.fresh().refused(NONE, "one", 0);
    }

    private static void keepsNone() {
        sentence("1 if a RULE KEEPS, else 0; NONE if there is none such.");
        Trial trial = of("moves 2;men 1;rule a own;rule b 1;").due(1, "keeps", 0).due(0, "keeps", 1);
        trial.refused(NONE, "keeps", 2).refused(NONE, "keeps", -1);
        Trial.fresh().refused(NONE, "keeps", 0);
    }

    private static void spreadCannotBe() {
        sentence("SPREAD; NONE if one can't be.");
        Trial trial = of("moves 3;men 4;rule a left;").due(1, "spread", 3, 2, 0).due(1, "spread", 0, 2, 3).due(0, "spread", 0, 2, 4);
        trial.refused(NONE, "spread", 4, 0, 0).refused(NONE, "spread", -1, 0, 0).refused(NONE, "spread", 0, 3, 0);
        trial.refused(NONE, "spread", 0, -1, 0).refused(NONE, "spread", 0, 0, -1).refused(NONE, "spread", 0, 0, 201);
    }

    private static void glintCannotBe() {
        sentence("GLINT: how many; NONE if it can't be; -2 if one can't be.");
        Trial trial = of("moves 3;men 4;rule a left/2;").due(1, "glint", 3, 2, 0).due(1, "glint", 3, 1, 1).due(NONE, "glint", 3, 2, 1);
        trial.due(-2, "glint", 4, 0, 0).due(-2, "glint", -1, 0, 0).due(-2, "glint", 0, 3, 0).due(-2, "glint", 0, -1, 0);
        trial.due(-2, "glint", 0, 0, -1).due(-2, "glint", 0, 0, 9).due(0, "glint", 0, 0, 8).due(0, "glint", 0, 0, 0);
        trial.row("0000").due(0, "about", 4);
    }

    private static void glintLies() {
        sentence("The MEN, then their MOVES lie there then (behind 0, NONE, -2: nothing).");
        Trial trial = of("moves 3;men 4;rule a left*right;").due(2, "glint", 1, 2, 1).lie(0, 2, 1, 2);
        trial.due(0, "glint", 1, 0, 1).lie().due(1, "glint", 1, 2, 0).lie(1, 2).due(NONE, "glint", 0, 1, 1).lie();
        trial.due(1, "glint", 1, 2, 0).lie(1, 2).due(-2, "glint", 4, 1, 1).lie();
        trial.due(1, "glint", 1, 2, 0).lie(1, 2).due(-2, "glint", 0, 0, 9).lie();
    }

    private static void cracksLikewise() {
        sentence("CRACKS: likewise; the MEN lie there then.");
        Trial trial = of("moves 3;men 4;rule a own+1;").due(1, "cracks", 3, 0, 1).lie(3).due(0, "cracks", 3, 1, 1).lie();
        trial.due(1, "cracks", 3, 0, 1).due(NONE, "cracks", 3, 2, 1).lie().due(1, "cracks", 3, 0, 1).due(-2, "cracks", 4, 0, 1).lie();
        trial.due(1, "cracks", 3, 0, 1).due(-2, "cracks", -1, 0, 1).lie().due(1, "cracks", 3, 0, 1).due(-2, "cracks", 0, 3, 1).lie();
        trial.due(1, "cracks", 3, 0, 1).due(-2, "cracks", 0, -1, 1).lie().due(1, "cracks", 3, 0, 1).due(-2, "cracks", 0, 0, 0).lie();
        trial.due(1, "cracks", 3, 0, 1).due(-2, "cracks", 0, 0, 31).lie().row("0000").due(0, "about", 4);
    }

    private static void liesNoneSuch() {
        sentence("The i-th number of what lies there; NONE if there is none such.");
        Trial trial = of("moves 4;men 30;man 0 does 3;man 29 does 2;").refused(NONE, "lies", 0).due(1, "before");
        trial.due(3, "lies", 0).due(0, "lies", 1).due(0, "lies", 28).due(2, "lies", 29).refused(NONE, "lies", 30).refused(NONE, "lies", -1);
        trial.due(1, "glint", 3, 1, 0).due(3, "lies", 0).due(1, "lies", 1).refused(NONE, "lies", 2);
    }

    private static void sightRefused() {
        sentence("A SIGHT: its number; NONE, doing nothing, if one can't be");
        Trial trial = of("moves 3;men 4;").due(0, "sight", 0, 0, 0).due(1, "sight", 30, 3, 2).due(2, "sight", 0, 0, 0);
        trial.refused(NONE, "sight", -1, 0, 0).refused(NONE, "sight", 31, 0, 0).refused(NONE, "sight", 0, -1, 0);
        trial.refused(NONE, "sight", 0, 4, 0).refused(NONE, "sight", 0, 0, -1).refused(NONE, "sight", 0, 0, 3);
        trial.due(3, "about", 6).due(3, "sight", 0, 0, 0);
    }

    private static void sightFull() {
        sentence("if one can't be, or there are 30.");
        Trial trial = of("moves 3;men 4;");
        for (int number = 0; number < 30; number++) {
            trial.due(number, "sight", 0, 0, 0);
        }
        trial.refused(NONE, "sight", 0, 0, 1).due(1, "wrong", 0, 0).due(1, "untell", 0).refused(NONE, "sight", 0, 0, 1);
        trial.tape("moves 3;men 4;").due(4, "drill").due(0, "sight", 0, 0, 0);
    }

    private static void untellFalse() {
        sentence("It is UNTOLD: true; false if it is so already, or there is none such.");
        Trial trial = of("moves 3;men 4;").refused(0, "untell", 0).due(0, "sight", 0, 0, 1).due(1, "sight", 0, 1, 1);
        trial.refused(0, "untell", 2).refused(0, "untell", -1).due(1, "untell", 1).refused(0, "untell", 1).due(1, "untell", 0);
        trial.due(2, "about", 6).due(5, "later", 5).refused(0, "untell", 0).due(1, "wrong", 0, 4);
    }

    private static void laterBounds() {
        sentence("So much later (0 .. 1000): the TIME; NONE, doing nothing, for another number");
        Trial trial = Trial.fresh().due(0, "later", 0).due(1, "later", 1).due(1000, "later", 999).due(2000, "later", 1000);
        trial.refused(NONE, "later", 1001).refused(NONE, "later", -1).refused(NONE, "later", -2000).due(2000, "about", 7);
    }

    private static void laterAbove() {
        sentence("or if it would be above 100,000.");
        Trial trial = of(FIVE).times(99, "later", 1000).due(99000, "about", 7).due(99999, "later", 999);
        trial.refused(NONE, "later", 2).refused(NONE, "later", 1000).due(100000, "later", 1).refused(NONE, "later", 1);
        trial.due(100000, "later", 0).due(0, "sight", 0, 0, 1).due(0, "wrong", 0, 100000).due(1, "wrong", 0, 99999);
    }

    private static void unsureJustThese() {
        sentence("UNSURE are just these (as bits): how many");
        Trial trial = of("moves 2;men 30;").due(0, "about", 12).due(1, "unsure", 1).due(1, "about", 12);
        trial.due(2, "unsure", 1 << 29 | 2).due(1 << 29 | 2, "about", 12).due(NONE, "sure", 0, 0).due(-2, "sure", 29, 0);
        trial.due(0, "unsure", 0).due(0, "about", 12).due(1, "fits", 0);
    }

    private static void unsureRefused() {
        sentence("NONE, doing nothing, if one can't be, or they are more than 6.");
        Trial trial = of("moves 2;men 30;").due(6, "unsure", 0x3F000000).refused(NONE, "unsure", 0x3F800000);
        trial.refused(NONE, "unsure", 1 << 30).refused(NONE, "unsure", LEAST).due(0x3F000000, "about", 12).due(64, "fits", 0);
        Trial seven = of("moves 2;men 7;").due(1, "unsure", 64).refused(NONE, "unsure", 128).refused(NONE, "unsure", 127);
        seven.refused(NONE, "unsure", 192).refused(NONE, "unsure", -1).due(64, "about", 12).due(6, "unsure", 126);
        of("moves 2;men 1;").due(1, "unsure", 1).refused(NONE, "unsure", 2).refused(NONE, "unsure", 3).due(0, "unsure", 0);
        Trial.fresh().due(0, "unsure", 0).refused(NONE, "unsure", 1).refused(NONE, "unsure", -1).refused(NONE, "unsure", LEAST);
    }

    private static void fitsHowMany() {
        sentence("FIT: how many.");
        Trial trial = of("moves 4;men 6;rule a own;").due(1, "fits", 0).due(6, "unsure", 63).due(4096, "fits", 0);
        for (int man = 0; man < 6; man++) {
            trial.due(man, "sight", 1, man, 3).due(1 << 10 - 2 * man, "fits", 0);
        }
        trial.due(6, "sight", 30, 0, 2).due(0, "fits", 0).due(4096, "fits", -1).due(0, "about", 11);
    }

    private static void sureOrNot() {
        sentence("-2 if it is not one MOVE; NONE if none FITS, he is not, or there is none such.");
        Trial trial = of("moves 3;men 4;").due(2, "unsure", 0b1001).due(-2, "sure", 0, 0).due(-2, "sure", 3, 0);
        trial.refused(NONE, "sure", 1, 0).refused(NONE, "sure", 4, 0).refused(NONE, "sure", -1, 0).due(0, "sight", 0, 3, 2);
        trial.due(2, "sure", 3, 0).due(-2, "sure", 3, -1).due(-2, "sure", 0, 0).due(1, "sight", 0, 1, 1);
        trial.due(NONE, "sure", 3, 0).due(NONE, "sure", 0, 0).due(-2, "sure", 0, -1).due(NONE, "sure", 1, -1);
    }

    private static void wrongNothing() {
        sentence("WRONG what 0: 1 if nothing can be, else 0");
        Trial trial = of("moves 3;men 2;rule a own+1;").due(1, "wrong", 0, 0).due(0, "sight", 30, 0, 0).due(1, "wrong", 0, 0);
        trial.due(1, "sight", 30, 1, 1).due(0, "wrong", 0, 0).due(1, "wrong", 0, -1);
        Trial.fresh().due(1, "wrong", 0, 0).due(0, "wrong", 1, 0).due(0, "wrong", 2, 0);
    }

    private static void wrongCracked() {
        sentence("1: MEN who can be cracked (those who are not told so)");
        of("moves 3;men 3;rule a own;man 1 does 1 cracked;").due(0b101, "wrong", 1, 0).due(0b111, "wrong", 2, 0);
        of("moves 3;men 3;").due(0b111, "wrong", 1, 0).due(0, "sight", 9, 2, 1).due(0, "wrong", 1, 0).due(0b111, "wrong", 1, -1);
    }

    private static void wrongWindow() {
        sentence("2: MEN who can have a window, as bits");
        Trial trial = of("moves 3;men 3;rule a left;rule b own;man 1 does 1 window 2;").due(0b111, "wrong", 2, 0);
        trial.due(0, "sight", 1, 0, 0).due(1, "sight", 1, 1, 2).due(2, "sight", 1, 2, 1).due(0b101, "wrong", 2, 0);
        trial.due(3, "sight", 2, 2, 2).due(1, "wrong", 0, 0).due(0b001, "wrong", 2, 0);
        trial.due(4, "sight", 2, 0, 1).due(0, "wrong", 2, 0).due(0, "wrong", 0, 0);
    }

    private static void wrongOfAnother() {
        sentence("as bits; NONE for another what.");
        of(FIVE).refused(NONE, "wrong", 3, 0).refused(NONE, "wrong", -1, 0).refused(NONE, "wrong", LEAST, 0);
    }

    private static void imageBoxes() {
        sentence("are kept in a BOX 0 .. 2: how many BEATS; NONE if there is none such.");
        Trial trial = of("moves 4;men 1;rule a own+1;").refused(NONE, "image", -1).refused(NONE, "image", 3).due(0, "image", 0);
        trial.due(1, "run", 1).due(1, "image", 1).due(2, "run", 1).due(2, "image", 2).due(3, "run", 1).refused(NONE, "image", 3);
        trial.due(0, "back", 0).row("0").due(1, "back", 1).row("1").due(2, "back", 2).row("2").due(0, "back", 0).row("0");
    }

    private static void imageKept() {
        sentence("THE ROW, the number of BEATS are kept");
        Trial trial = of("moves 4;men 2;rule a own+1;").due(0, "order", 1, 3).due(2, "run", 2).due(2, "image", 0).due(2, "about", 4);
        trial.due(1, "undo").due(0, "image", 0).due(1, "about", 5).due(1, "redo").due(0, "back", 0).row("03").due(0, "about", 3);
    }

    private static void backAsKept() {
        sentence("All is as it was kept (no ACTS are kept then): how many BEATS");
        Trial trial = of("moves 4;men 2;rule a own+1;").due(2, "run", 2).due(2, "image", 1).due(2, "order", 0, 0).due(5, "run", 3);
        trial.due(1, "undo").due(2, "about", 4).due(1, "about", 5).due(0, "sight", 0, 0, 1).due(1, "unsure", 1).due(4, "later", 4);
        trial.due(1, "glint", 0, 1, 0).due(2, "back", 1).row("22").due(2, "about", 3).due(0, "about", 4).due(0, "about", 5);
        trial.refused(0, "undo").refused(0, "redo").due(1, "about", 6).due(4, "about", 7).due(1, "about", 12).lie(0, 1);
        trial.due(3, "run", 1).due(1, "undo").row("22").due(0, "undo").due(2, "back", 1).row("22").due(0, "about", 5);
    }

    private static void backRefused() {
        sentence("NONE, doing nothing, if nothing was.");
        Trial trial = of("moves 4;men 2;rule a own+1;").due(2, "run", 2).due(2, "image", 1).due(3, "run", 1).due(1, "undo");
        trial.refused(NONE, "back", 0).refused(NONE, "back", 2).refused(NONE, "back", 3).refused(NONE, "back", -1);
        trial.due(1, "about", 4).due(1, "about", 5).due(1, "redo").row("33").refused(NONE, "image", 3).refused(NONE, "image", -1);
        trial.refused(NONE, "back", 0).refused(NONE, "back", 2).due(2, "back", 1);
    }

    private static void aboutEach() {
        sentence("What 0: MEN, 1: MOVES, 2: RULES, 3: BEATS that were, 4: ACTS that can be undone, 5: redone");
        Trial trial = of("moves 3;men 4;rule a (left);rule b right+own+1;rule c 1;");
        int[] first = {4, 3, 3, 0, 0, 0, 0, 0, 0, 6, 0, 0, 0};
        for (int what = 0; what <= 12; what++) {
            trial.due(first[what], "about", what);
        }
        trial.due(9, "run", 9).due(9, "run", 0).due(0, "order", 3, 2).due(1, "undo").due(0, "sight", 0, 0, 0).due(1, "untell", 0);
        trial.due(11, "later", 11).due(20, "feed", 0, 0, 0, 0, 0).due(2, "unsure", 0b1010).due(1, "glint", 0, 1, 0);
        int[] then = {4, 3, 3, 9, 2, 1, 1, 11, 20, 6, 0, 2, 10};
        for (int what = 0; what <= 12; what++) {
            trial.due(then[what], "about", what);
        }
        of(FIVE).due(1, "about", 10).tape("moves 2;men 5;").due(5, "drill").due(0, "about", 10);
    }

    private static void aboutAnother() {
        sentence("12: UNSURE ones, as bits. NONE for another what.");
        of(FIVE).refused(NONE, "about", 13).refused(NONE, "about", -1).refused(NONE, "about", LEAST).refused(NONE, "about", MOST);
    }

    /** Numbers far outside, at each place of each call that can refuse: none is let in by a wrap-around. */
    private static void farNumbers() {
        sentence("if one can't be");
        for (int far : FAR) {
            Trial trial = full().refused(NONE, "does", far).refused(NONE, "order", far, 0).refused(NONE, "order", 0, far);
            trial.refused(NONE, "run", far < 0 || far > 500 ? far : far + 500).refused(NONE, "later", far < 0 || far > 1000 ? far : -far);
            trial.refused(NONE, "made", far, 0, 0, 0).refused(NONE, "made", 0, far, 0, 0).refused(NONE, "made", 0, 0, far, 0);
            trial.refused(NONE, "made", 0, 0, 0, far);
            Trial other = full().refused(NONE, "spread", far, 0, 0).refused(NONE, "spread", 0, far, 0);
            other.refused(NONE, "spread", 0, 0, far < 0 || far > 200 ? far : -far).refused(NONE, "sight", far, 0, 0);
            other.refused(NONE, "sight", 0, far, 0).refused(NONE, "sight", 0, 0, far).refused(0, "untell", far);
            other.refused(NONE, "lies", far).refused(NONE, "image", far).refused(NONE, "back", far);
            Trial third = full().refused(NONE, "round", far).refused(NONE, "one", far).refused(NONE, "keeps", far);
            third.refused(NONE, "sure", far, 0).refused(NONE, "wrong", far, 0).refused(NONE, "about", far).refused(NONE, "fault", far);
            third.refused(NONE, "unsure", far).refused(NONE, "end", far);
            Trial fourth = full().due(-2, "glint", far, 0, 0).lie().due(-2, "glint", 0, far, 0).due(-2, "glint", 0, 0, far).lie();
            fourth.due(-2, "cracks", far, 0, 1).due(-2, "cracks", 0, far, 1).due(-2, "cracks", 0, 0, far).due(NONE, "orphan", far).lie();
            fourth.due(2, "back", 0).due(2, "back", 1).due(2, "back", 2);
        }
    }
}
