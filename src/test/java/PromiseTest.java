/** Each promise of the document by hand: what is ordinary, the edges it names, and wrong inputs. */
public final class PromiseTest {
    private static final int NONE = MirrorDrill.NONE;
    /** A ring of five by left + right, as in a game of two moves; the middle man does 1. */
    private static final String FIVE = "moves 2;men 5;ring;rule x left + right;man 2 does 1;";
    /** By 20 beats its tail and loop are 3,000 together. */
    private static final String LONG_COURSE = "moves 4;men 14;ring;"
        + "rule a (left*44+own*46+right*24+2)*(left+own*6+right*2+8)/4%96;man 0 does 1;man 3 does 1;";

    private PromiseTest() {
    }

    public static void main(String[] args) {
        newObject();
        feedAndEnd();
        drill();
        doesAndMade();
        formulas();
        beats();
        run();
        orderUndoRedo();
        fortyActs();
        worth();
        round();
        before();
        beforeMany();
        orphan();
        oneToOne();
        keeps();
        spread();
        glint();
        cracks();
        sights();
        unsureAndFits();
        twoTimes();
        wrong();
        boxes();
        about();
        Calls.close("PromiseTest");
    }

    private static void due(String what, long got, long want) {
        Calls.due(what, got, want);
    }

    private static void due(String what, boolean got, boolean want) {
        Calls.due(what, got, want);
    }

    private static void dueRow(String what, MirrorDrill x, String row) {
        for (int man = 0; man < row.length(); man++) {
            due(what + ": man " + man, x.does(man), row.charAt(man) - '0');
        }
        due(what + ": no man more", x.does(row.length()), NONE);
    }

    private static void dueLies(String what, MirrorDrill x, int... numbers) {
        due(what + ": how many lie there", x.about(11), numbers.length);
        for (int i = 0; i < numbers.length; i++) {
            due(what + ": lies(" + i + ")", x.lies(i), numbers[i]);
        }
        due(what + ": lies behind the last", x.lies(numbers.length), NONE);
        due(what + ": lies(-1)", x.lies(-1), NONE);
    }

    private static void newObject() {
        MirrorDrill x = new MirrorDrill();
        int[] want = {0, 2, 0, 0, 0, 0, 0, 0, 0, 0, 0, 0, 0};
        for (int i = 0; i < want.length; i++) {
            due("new: about(" + i + ")", x.about(i), want[i]);
        }
        due("new: fault(0)", x.fault(0), 0);
        due("new: fault(1)", x.fault(1), NONE);
        due("new: does(0)", x.does(0), NONE);
        due("new: made", x.made(0, 0, 0, 0), NONE);
        due("new: order", x.order(0, 0), NONE);
        due("new: undo", x.undo(), false);
        due("new: redo", x.redo(), false);
        due("new: one", x.one(0), NONE);
        due("new: keeps", x.keeps(0), NONE);
        due("new: orphan", x.orphan(0), NONE);
        due("new: spread", x.spread(0, 0, 0), NONE);
        due("new: cracks", x.cracks(0, 0, 1), -2);
        due("new: before", x.before(), 1);
        dueLies("new", x);
        due("new: sight", x.sight(0, 0, 0), NONE);
        due("new: untell", x.untell(0), false);
        due("new: sure", x.sure(0, 0), NONE);
        due("new: back", x.back(0), NONE);
        due("new: drill", x.drill(), 0);
        due("new: fits", x.fits(5), 1);
        due("NONE", MirrorDrill.NONE, -1);
    }

    private static void feedAndEnd() {
        MirrorDrill x = new MirrorDrill();
        due("feed: highest byte first", x.feed(0x6D6F7665, 0x7320323B, 0x206D656E, 0x20333B20, 0x20202020), 20);
        due("feed: drill", x.drill(), 3);
        due("feed: the tape is empty then", x.about(8), 0);
        for (int i = 1; i <= 80; i++) {
            due("feed " + i, x.feed(-1, i, i, i, i), 20 * i);
        }
        due("feed: too many", x.feed(0, 0, 0, 0, 0), NONE);
        due("feed: none came", x.about(8), 1600);
        due("end below 0", x.end(-1), NONE);
        due("end beyond", x.end(1601), NONE);
        due("end with all", x.end(1600), 1600);
        due("end with one less", x.end(1599), 1599);
        due("feed: 1619 are too many", x.feed(0, 0, 0, 0, 0), NONE);
        due("end 1580", x.end(1580), 1580);
        due("end can't go up", x.end(1581), NONE);
        due("feed: just 1600", x.feed(0, 0, 0, 0, 0), 1600);
        due("end 0", x.end(0), 0);
        due("end of an empty one", x.end(1), NONE);
    }

    private static void drill() {
        MirrorDrill x = Calls.of(FIVE);
        x.later(7);
        x.run(2);
        x.order(0, 1);
        x.undo();
        x.sight(0, 0, 0);
        x.unsure(3);
        x.image(0);
        x.glint(0, 1, 1);
        long lay = x.about(11);
        Calls.tape(x, "moves 2;men 4;oops;");
        due("drill with a fault", x.drill(), NONE);
        due("its fault", x.fault(0), 2);
        due("its place", x.fault(1), 14);
        due("fault(2)", x.fault(2), NONE);
        due("fault(-1)", x.fault(-1), NONE);
        int[] stays = {5, 2, 1, 2, 1, 1, 1, 7, 19, 2, 1, (int) lay, 3};
        for (int i = 0; i < stays.length; i++) {
            due("all stays: about(" + i + ")", x.about(i), stays[i]);
        }
        due("all stays: box", x.back(0), 2);
        Calls.tape(x, "moves 3;");
        due("drill without men", x.drill(), 0);
        due("no fault now", x.fault(0), 0);
        due("no place now", x.fault(1), NONE);
        int[] fresh = {0, 3, 0, 0, 0, 0, 0, 7, 0, 0, 0, 0, 0};
        for (int i = 0; i < fresh.length; i++) {
            due("anew: about(" + i + ")", x.about(i), fresh[i]);
        }
        due("anew: box", x.back(0), NONE);
        due("blanks alone are empty", blanks(), 0);
    }

    private static int blanks() {
        MirrorDrill x = new MirrorDrill();
        Calls.tape(x, " \n ");
        return x.drill();
    }

    private static void doesAndMade() {
        MirrorDrill x = Calls.of("moves 3;men 30;man 29 does 2;rule a own;rule b left*9+own*3+right-13;");
        due("does(29)", x.does(29), 2);
        due("does(0)", x.does(0), 0);
        due("does(30)", x.does(30), NONE);
        due("does(-1)", x.does(-1), NONE);
        due("made left", x.made(1, 1, 0, 0), Math.floorMod(-4, 3));
        due("made own", x.made(1, 0, 2, 0), Math.floorMod(-7, 3));
        due("made right", x.made(1, 0, 0, 2), Math.floorMod(-11, 3));
        due("made below 0 comes up", x.made(1, 0, 0, 0), 2);
        due("made: no rule", x.made(2, 0, 0, 0), NONE);
        due("made: no rule", x.made(-1, 0, 0, 0), NONE);
        due("made: no left", x.made(0, 3, 0, 0), NONE);
        due("made: no own", x.made(0, 0, -1, 0), NONE);
        due("made: no right", x.made(0, 0, 0, 3), NONE);
    }

    private static int value(String formula) {
        return Calls.of("moves 4;men 1;rule a " + formula + ";").made(0, 1, 2, 3);
    }

    private static void formulas() {
        due("a number alone is not made 1", value("7"), 3);
        due("term before sum", value("1 + 2 * 3"), 3);
        due("from the left", value("9 - 4 - 2"), 3);
        due("/ and * from the left", value("9 / 2 * 3"), 0);
        due("/ cut towards 0", value("(0 - 7) / 2"), 1);
        due("% is the rest of it", value("(0 - 7) % 4"), 1);
        due("/ by 0", value("7 / 0 + 3"), 3);
        due("% by 0", value("7 % (1 - 1)"), 0);
        due("wrapping", value("9999*9999*9999 / 9999 % 4 + 0 * 1"), Math.floorMod(9999 * 9999 * 9999 / 9999 % 4, 4));
        due("least by -1", value("(0-2048*1024*1024)/(0-1)+1"), 1);
        due("least % -1", value("(0-2048*1024*1024)%(0-1)+1"), 1);
        due("<", value("left < own"), 1);
        due("< of like ones", value("own < 2"), 0);
        due(">", value("right > own"), 1);
        due("=", value("left + own = right"), 1);
        due("not of a relation", value("not left = own"), 1);
        due("not of what is not 0", value("not 5"), 0);
        due("not not", value("not not 5"), 1);
        due("and of what is not 0", value("2 and 3"), 1);
        due("or of what is not 0", value("0 or 3"), 1);
        due("and binds more", value("1 or 0 and 0"), 1);
        due("within parentheses", value("(1 or 0) and 0"), 0);
        due("not binds more than and", value("not 0 and 0"), 0);
        due("values in sums", value("(left < own) + (own < right) + (2 and 2)"), 3);
        due("parentheses keep a value", value("((3))"), 3);
        due("no blanks", value("not(left)or(right)"), 1);
    }

    private static void beats() {
        MirrorDrill x = Calls.of("moves 4;men 3;edge 3;rule l left;rule r right;man 0 does 0;man 1 does 1;man 2 does 2;");
        x.run(1);
        dueRow("left at the edge", x, "301");
        x = Calls.of("moves 4;men 3;edge 3;rule r right;man 0 does 0;man 1 does 1;man 2 does 2;");
        x.run(1);
        dueRow("right at the edge", x, "123");
        x = Calls.of("moves 4;men 3;ring;edge 3;rule r right;man 0 does 0;man 1 does 1;man 2 does 2;");
        x.run(1);
        dueRow("in a ring edge does nothing", x, "120");
        x = Calls.of("moves 4;men 3;rule r right;man 0 does 0;man 1 does 1;man 2 does 2;");
        x.run(1);
        dueRow("edge is 0 if not told", x, "120");
        x = Calls.of("moves 4;men 3;edge 3;rule r right;man 0 does 0 turned;man 1 does 1 turned;man 2 does 2 turned;");
        x.run(1);
        dueRow("all turned", x, "301");
        x = Calls.of("moves 4;men 3;edge 3;rule r left*2+right;man 0 does 1 window 1;man 1 does 1 cracked;man 2 does 2 turned window 2;");
        x.run(1);
        dueRow("windows and a crack", x, "312");
        x = Calls.of("moves 4;men 1;ring;rule s left+own+right;man 0 does 1;");
        x.run(1);
        dueRow("a ring of one", x, "3");
        x = Calls.of("moves 4;men 1;edge 2;rule s left+own+right;man 0 does 1;");
        x.run(1);
        dueRow("a row of one", x, "1");
        x = Calls.of("moves 2;men 2;man 1 does 1;rule a 1-own;rule b own;");
        x.run(1);
        dueRow("the first rule, told behind", x, "10");
        x = Calls.of("moves 2;men 2;rule a 1-own;rule b own;man 0 does 1 by b;");
        x.run(1);
        dueRow("by another rule", x, "11");
        x = Calls.of("moves 2;men 2;man 1 does 1;");
        x.run(9);
        dueRow("no rule", x, "01");
        x = Calls.of("moves 4;men 30;ring;rule a left;man 29 does 3;man 0 does 1;");
        x.run(2);
        due("thirty: man 1", x.does(1), 3);
        due("thirty: man 2", x.does(2), 1);
        due("thirty: man 29", x.does(29), 0);
    }

    private static void run() {
        MirrorDrill x = Calls.of(FIVE);
        due("run(-1)", x.run(-1), NONE);
        due("run(501)", x.run(501), NONE);
        due("no act", x.about(4), 0);
        due("run(0) is an act", x.run(0), 0);
        due("an act", x.about(4), 1);
        due("run(3)", x.run(3), 3);
        dueRow("three beats", x, "11011");
        for (int i = 0; i < 199; i++) {
            x.run(500);
        }
        due("beats so far", x.about(3), 99503);
        due("beyond 100,000", x.run(498), NONE);
        due("just 100,000", x.run(497), 100000);
        due("no more", x.run(1), NONE);
        due("none more", x.run(0), 100000);
        due("undone", x.undo() && x.undo(), true);
        due("again fewer", x.about(3), 99503);
    }

    private static void orderUndoRedo() {
        MirrorDrill x = Calls.of(FIVE);
        due("order", x.order(4, 1), 0);
        due("order the same", x.order(4, 1), 1);
        due("order: no man", x.order(5, 0), NONE);
        due("order: no man", x.order(-1, 0), NONE);
        due("order: no move", x.order(0, 2), NONE);
        due("order: no move", x.order(0, -1), NONE);
        due("run", x.run(1), 1);
        dueRow("behind it", x, "11000");
        due("acts", x.about(4), 3);
        due("undo the run", x.undo(), true);
        dueRow("as ordered", x, "00101");
        due("undo the second", x.undo(), true);
        due("undo the first", x.undo(), true);
        dueRow("as told", x, "00100");
        due("no more", x.undo(), false);
        due("can be redone", x.about(5), 3);
        due("redo", x.redo(), true);
        dueRow("the first again", x, "00101");
        due("a wrong order takes nothing away", x.order(9, 9), NONE);
        due("still two", x.about(5), 2);
        due("another act", x.order(0, 1), 0);
        due("redo no more", x.redo(), false);
        due("none can be redone", x.about(5), 0);
        due("two can be undone", x.about(4), 2);
        due("undo", x.undo(), true);
        dueRow("back", x, "00101");
        due("beats", x.about(3), 0);
    }

    private static void fortyActs() {
        MirrorDrill x = Calls.of("moves 4;men 1;rule a own+1;");
        for (int i = 1; i <= 45; i++) {
            due("run " + i, x.run(1), i);
        }
        due("forty are kept", x.about(4), 40);
        int undone = 0;
        while (x.undo()) {
            undone++;
        }
        due("forty undone", undone, 40);
        due("the oldest five stay", x.about(3), 5);
        due("what he does", x.does(0), 1);
        due("forty to redo", x.about(5), 40);
        for (int i = 0; i < 40; i++) {
            due("redo " + i, x.redo(), true);
        }
        due("redo no more", x.redo(), false);
        due("all beats again", x.about(3), 45);
        due("what he does again", x.does(0), 1);
    }

    private static void worth() {
        MirrorDrill x = Calls.of("moves 4;men 4;man 1 does 1;man 2 does 2;man 3 does 3;");
        due("as numbers", x.worth(), 6);
        x = Calls.of("moves 4;men 4;worth 99 0 5 7;man 1 does 1;man 2 does 2;man 3 does 3;");
        due("as told", x.worth(), 111);
        x.order(1, 0);
        due("of what is done now", x.worth(), 210);
    }

    private static void round() {
        MirrorDrill x = Calls.of(FIVE);
        due("tail", x.round(0), 1);
        due("loop", x.round(1), 3);
        due("round(2)", x.round(2), NONE);
        due("round(-1)", x.round(-1), NONE);
        x.order(2, 0);
        due("another row: tail", x.round(0), 0);
        due("another row: loop", x.round(1), 1);
        Calls.tape(x, "moves 4;men 3;rule a own+1;");
        x.drill();
        due("another drill: tail", x.round(0), 0);
        due("another drill: loop", x.round(1), 4);
        x = Calls.of(LONG_COURSE);
        due("3,020 together", x.round(0), -2);
        due("3,020 together", x.round(1), -2);
        due("spent, but no such what", x.round(2), NONE);
        x.run(19);
        due("3,001 together", x.round(1), -2);
        x.run(1);
        due("3,000 together: tail", x.round(0), 221);
        due("3,000 together: loop", x.round(1), 2779);
        x.run(221);
        due("in the loop: tail", x.round(0), 0);
        due("in the loop: loop", x.round(1), 2779);
    }

    private static void before() {
        MirrorDrill x = Calls.of(FIVE);
        x.run(1);
        due("two before", x.before(), 2);
        dueLies("the first", x, 0, 0, 1, 0, 0);
        x.order(0, 1);
        due("none before", x.before(), 0);
        dueLies("nothing", x);
        x = Calls.of("moves 3;men 2;ring;rule a left + own + right;man 0 does 1;man 1 does 2;");
        due("a ring of two sees one man twice", x.before(), 3);
        dueLies("its first", x, 0, 2);
        x = Calls.of("moves 4;men 1;ring;rule a left + right;man 0 does 2;");
        due("a ring of one", x.before(), 2);
        dueLies("its first", x, 1);
        x = Calls.of("moves 2;men 3;edge 1;rule a left;man 0 does 1;man 1 does 1;");
        due("a row: what the last did is free", x.before(), 2);
        dueLies("its first", x, 1, 0, 0);
        x = Calls.of("moves 2;men 3;edge 0;rule a left;man 0 does 1;man 1 does 1;");
        due("a row whose edge can't be", x.before(), 0);
        x = Calls.of("moves 2;men 3;rule a left;man 0 does 1 cracked;man 1 does 1 window 1;man 2 does 0 turned;");
        due("cracked, a window, turned", x.before(), 4);
        dueLies("their first", x, 1, 0, 0);
        x = Calls.of("moves 3;men 3;man 1 does 2;");
        due("without rules", x.before(), 1);
        dueLies("itself", x, 0, 2, 0);
    }

    private static void beforeMany() {
        MirrorDrill x = Calls.of("moves 4;men 24;rule a 3;");
        due("none leads to what is not made", x.before(), 0);
        x.run(1);
        due("4 ^ 24", x.before(), 281474976710656L);
        x = Calls.of("moves 4;men 25;rule a 0;");
        due("4 ^ 25 are more than can be told", x.before(), 1000000000000000L);
        x = Calls.of("moves 4;men 30;ring;rule a 0;");
        due("4 ^ 30 are more too", x.before(), 1000000000000000L);
        due("thirty lie there", x.about(11), 30);
        x = Calls.of("moves 4;men 30;ring;rule a left;man 29 does 3;");
        due("a ring of thirty moved on", x.before(), 1);
        due("its first man 28", x.lies(28), 3);
        due("its first man 29", x.lies(29), 0);
        x = Calls.of("moves 2;men 30;ring;rule a left + right;");
        due("an even ring by left + right", x.before(), 4);
        x.order(0, 1);
        due("an odd sum comes of nothing", x.before(), 0);
    }

    private static void orphan() {
        MirrorDrill x = Calls.of("moves 2;men 1;rule a left and right;rule s right;rule c 1;rule n own*own;");
        due("left and right", x.orphan(0), 5);
        dueLies("the first of like ones", x, 1, 0, 0, 0, 1);
        due("a rule that only moves on", x.orphan(1), 0);
        dueLies("nothing", x);
        due("one move alone", x.orphan(2), 1);
        dueLies("the other", x, 0);
        due("own", x.orphan(3), 0);
        x.orphan(2);
        due("no such rule", x.orphan(4), NONE);
        dueLies("nothing", x);
        due("no such rule", x.orphan(-1), NONE);
        x = Calls.of("moves 2;men 1;rule one left + own + right = 1;rule six (left and not own) + (own or right);"
            + "rule maj left + own + right > 1;");
        due("majority", x.orphan(2), 5);
        dueLies("majority", x, 0, 1, 0, 0, 1);
        x = Calls.of("moves 4;men 1;rule a left+right;rule b own/2*2+left%2;rule c own%3;");
        due("four moves, left + right", x.orphan(0), 0);
        due("four moves, two halves", x.orphan(1), 0);
        due("four moves, never 3", x.orphan(2), 1);
        dueLies("never 3", x, 3);
    }

    private static void oneToOne() {
        MirrorDrill x = Calls.of("moves 2;men 1;rule a left;rule b not own;rule c left + right;rule d left and own;"
            + "rule e left + own;rule f 0;");
        due("moved on", x.one(0), 1);
        due("turned into the other", x.one(1), 1);
        due("left + right leads to all, but not by one alone", x.one(2), 0);
        due("left and own", x.one(3), 0);
        due("left + own", x.one(4), 0);
        due("all alike", x.one(5), 0);
        due("no such rule", x.one(6), NONE);
        due("no such rule", x.one(-1), NONE);
        x = Calls.of("moves 4;men 1;rule a right/2*2+left%2;rule b own/2*2+left%2;rule c own+2*left;rule d own + 2*(left%2);"
            + "rule e own*3+1;");
        due("two halves go apart", x.one(0), 1);
        due("one half goes", x.one(1), 1);
        due("own + 2*left", x.one(2), 1);
        due("own + 2*(left%2)", x.one(3), 1);
        due("own*3+1", x.one(4), 1);
    }

    private static void keeps() {
        MirrorDrill x = Calls.of("moves 2;men 1;rule a left;rule b not own;rule c left and not own or own and right;"
            + "rule d own and right;");
        due("moved on", x.keeps(0), 1);
        due("turned into the other", x.keeps(1), 0);
        due("the rule of the road", x.keeps(2), 1);
        due("own and right", x.keeps(3), 0);
        due("no such rule", x.keeps(4), NONE);
        due("no such rule", x.keeps(-1), NONE);
        x = Calls.of("moves 2;men 1;worth 5 5;rule a not own;rule b 0;");
        due("all are worth the same", x.keeps(0), 1);
        due("all are worth the same", x.keeps(1), 1);
        x = Calls.of("moves 3;men 1;worth 1 4 1;rule a own + 2*(own % 2 = 0);rule b own+1;");
        due("only like worths are changed", x.keeps(0), 0);
        due("others", x.keeps(1), 0);
        x = Calls.of("moves 3;men 1;worth 1 4 1;rule a (own = 0) * 2 + (own = 1);");
        due("0 and 2 change about", x.keeps(0), 1);
    }

    private static void spread() {
        MirrorDrill x = Calls.of("moves 3;men 9;edge 1;rule s left + own + right;");
        due("now", x.spread(4, 1, 0), 1);
        due("what he does anyway", x.spread(4, 0, 5), 0);
        due("one beat", x.spread(4, 1, 1), 3);
        due("two beats", x.spread(4, 2, 2), 4);
        due("at the end", x.spread(0, 1, 1), 2);
        due("no man", x.spread(9, 1, 1), NONE);
        due("no man", x.spread(-1, 1, 1), NONE);
        due("no move", x.spread(0, 3, 1), NONE);
        due("no move", x.spread(0, -1, 1), NONE);
        due("n below 0", x.spread(0, 1, -1), NONE);
        due("n 201", x.spread(0, 1, 201), NONE);
        x = Calls.of("moves 2;men 30;ring;rule a left;");
        due("n 200", x.spread(7, 1, 200), 1);
        due("nothing was done", x.about(3) + x.about(4), 0);
    }

    private static void glint() {
        MirrorDrill x = Calls.of("moves 3;men 6;rule s left*own*right;rule w own;man 4 does 1 by w cracked;man 5 does 2;");
        x.glint(1, 1, 1);
        due("three men", x.glint(1, 1, 1), 3);
        dueLies("three men", x, 0, 1, 2, 1, 1, 1);
        due("the first of their moves", x.glint(1, 2, 1), 3);
        dueLies("the first of their moves", x, 0, 1, 2, 1, 1, 2);
        due("one man ordered at once", x.glint(3, 2, 0), 1);
        dueLies("at once", x, 3, 2);
        due("two men", x.glint(3, 2, 1), 2);
        dueLies("two men", x, 2, 3, 1, 2);
        due("so anyway", x.glint(1, 0, 8), 0);
        dueLies("so anyway", x);
        x.glint(3, 2, 0);
        due("it can't be", x.glint(0, 1, 1), NONE);
        dueLies("it can't be", x);
        x.glint(3, 2, 0);
        due("no man", x.glint(6, 1, 1), -2);
        dueLies("no man", x);
        due("no man", x.glint(-1, 1, 1), -2);
        due("no move", x.glint(0, 3, 1), -2);
        due("no move", x.glint(0, -1, 1), -2);
        due("n 9", x.glint(0, 0, 9), -2);
        due("n -1", x.glint(0, 0, -1), -2);
        x = Calls.of("moves 2;men 30;ring;rule r right;");
        due("from far in a ring", x.glint(25, 1, 8), 1);
        dueLies("from far in a ring", x, 3, 1);
        x = Calls.of("moves 2;men 4;ring;rule r left + own + right > 2;");
        due("first by the least man", x.glint(0, 1, 1), 3);
        dueLies("first by the least man", x, 0, 1, 3, 1, 1, 1);
        x = Calls.of("moves 2;men 5;ring;rule r left + own + right > 1;");
        due("the first set", x.glint(2, 1, 1), 2);
        dueLies("the first set", x, 1, 2, 1, 1);
    }

    private static void cracks() {
        MirrorDrill x = Calls.of("moves 2;men 4;rule r right;man 3 does 1;");
        due("the last one keeps his 1", x.cracks(0, 1, 10), 1);
        dueLies("the last one", x, 3);
        due("so anyway", x.cracks(2, 1, 1), 0);
        dueLies("so anyway", x);
        due("he himself", x.cracks(2, 0, 1), 1);
        dueLies("he himself", x, 2);
        x = Calls.of("moves 2;men 3;ring;rule a left + own + right > 1;man 0 does 1;");
        due("it can't be", x.cracks(2, 1, 1), NONE);
        dueLies("it can't be", x);
        x = Calls.of("moves 2;men 3;edge 1;rule a left and right;rule b 0;man 0 does 1 by b;man 2 does 1 by b;");
        due("two men", x.cracks(1, 1, 2), 2);
        dueLies("two men", x, 0, 2);
        x.glint(0, 0, 0);
        due("n 0", x.cracks(1, 1, 0), -2);
        dueLies("n 0", x);
        due("n 31", x.cracks(1, 1, 31), -2);
        due("n 30", x.cracks(1, 1, 30), 2);
        due("no man", x.cracks(3, 1, 1), -2);
        due("no man", x.cracks(-1, 1, 1), -2);
        due("no move", x.cracks(1, 2, 1), -2);
        due("no move", x.cracks(1, -1, 1), -2);
    }

    private static void sights() {
        MirrorDrill x = Calls.of(FIVE);
        due("beat 31", x.sight(31, 0, 0), NONE);
        due("beat -1", x.sight(-1, 0, 0), NONE);
        due("no man", x.sight(0, 5, 0), NONE);
        due("no man", x.sight(0, -1, 0), NONE);
        due("no move", x.sight(0, 0, 2), NONE);
        due("no move", x.sight(0, 0, -1), NONE);
        for (int i = 0; i < 30; i++) {
            due("sight " + i, x.sight(i + 1, 0, 0), i);
        }
        due("there are thirty", x.sight(0, 0, 0), NONE);
        due("thirty", x.about(6), 30);
        due("untell", x.untell(29), true);
        due("untold already", x.untell(29), false);
        due("none such", x.untell(30), false);
        due("none such", x.untell(-1), false);
        due("an untold one stays one of thirty", x.sight(0, 0, 0), NONE);
        due("later(-1)", x.later(-1), NONE);
        due("later(1001)", x.later(1001), NONE);
        due("later(0)", x.later(0), 0);
        for (int i = 1; i <= 99; i++) {
            due("later", x.later(1000), 1000 * i);
        }
        due("later(999)", x.later(999), 99999);
        due("above 100,000", x.later(2), NONE);
        due("100,000", x.later(1), 100000);
        due("about(7)", x.about(7), 100000);
        x = Calls.of(FIVE);
        x.order(0, 1);
        x.run(5);
        x.sight(1, 1, 1);
        x.sight(2, 1, 0);
        due("from the beginning, without acts", x.wrong(0, 0), 1);
    }

    private static void unsureAndFits() {
        MirrorDrill x = Calls.of("moves 4;men 7;rule s left + right;");
        due("bits beyond the men", x.unsure(128), NONE);
        due("below 0", x.unsure(-1), NONE);
        due("seven", x.unsure(127), NONE);
        due("none is unsure", x.about(12), 0);
        due("nobody unsure: one row fits", x.fits(0), 1);
        due("six", x.unsure(126), 6);
        due("all fit", x.fits(0), 4096);
        due("about(12)", x.about(12), 126);
        due("not one move", x.sure(1, 0), -2);
        due("he is not unsure", x.sure(0, 0), NONE);
        due("no such man", x.sure(7, 0), NONE);
        due("no such man", x.sure(-1, 0), NONE);
        x.sight(1, 0, 3);
        due("man 1 did 3", x.sure(1, 0), 3);
        due("a quarter fits", x.fits(0), 1024);
        x.sight(1, 6, 2);
        x.sight(0, 3, 1);
        due("man 5 did 2", x.sure(5, 0), 2);
        due("man 3 did 1", x.sure(3, 0), 1);
        due("man 6", x.sure(6, 0), -2);
        due("fits", x.fits(0), 64);
        x.sight(0, 3, 2);
        due("against one another: none fits", x.fits(0), 0);
        due("none fits", x.sure(6, 0), NONE);
        due("others as told", x.unsure(0), 0);
        due("nobody is unsure", x.sure(6, 0), NONE);
        x = Calls.of("moves 2;men 30;");
        due("the last man", x.unsure(1 << 29), 1);
        due("bit 30", x.unsure(1 << 30), NONE);
        due("bit 31", x.unsure(1 << 31), NONE);
        due("it stays", x.about(12), 1 << 29);
    }

    private static void twoTimes() {
        MirrorDrill x = Calls.of("moves 2;men 3;rule a left;");
        x.unsure(7);
        x.sight(0, 0, 1);
        x.later(5);
        x.sight(0, 1, 1);
        x.untell(0);
        x.later(5);
        x.sight(1, 2, 0);
        due("at -1 nothing was told", x.fits(-1), 8);
        due("at 0", x.fits(0), 4);
        due("at 0: man 0", x.sure(0, 0), 1);
        due("at 4", x.fits(4), 4);
        due("at 5 untold at once", x.sure(0, 5), -2);
        due("at 5: man 1", x.sure(1, 5), 1);
        due("at 9", x.fits(9), 4);
        due("at 10 none fits", x.fits(10), 0);
        due("at 10 none is sure", x.sure(1, 10), NONE);
        x.untell(1);
        due("at 10, untold at the same time", x.sure(1, 10), 0);
        due("at 9 it still counts", x.sure(1, 9), 1);
        due("far ahead", x.fits(Integer.MAX_VALUE), 4);
        due("far back", x.fits(Integer.MIN_VALUE), 8);
    }

    private static void wrong() {
        MirrorDrill x = Calls.of("moves 3;men 4;rule a left;man 0 does 1;man 1 does 2;man 2 does 0 cracked;man 3 does 0 window 0;");
        due("nothing seen: nothing is wrong", x.wrong(0, 0), 1);
        due("nothing seen: who is told to be cracked is none of them", x.wrong(1, 0), 11);
        due("nothing seen: anyone can have a window", x.wrong(2, 0), 15);
        x.unsure(15);
        x.sight(1, 1, 2);
        due("man 1 should do 1 then", x.wrong(0, 0), 0);
        due("he can be cracked", x.wrong(1, 0), 2);
        due("he can see a 2", x.wrong(2, 0), 2);
        x.untell(0);
        x.sight(1, 3, 0);
        due("as told", x.wrong(0, 0), 1);
        due("another window would show it", x.wrong(2, 0), 7);
        x.sight(2, 2, 1);
        due("a cracked man did another thing", x.wrong(1, 0) + x.wrong(2, 0), 0);
        due("before it was told", x.wrong(0, -1), 1);
        due("no such what", x.wrong(3, 0), NONE);
        due("no such what", x.wrong(-1, 0), NONE);
    }

    private static void boxes() {
        MirrorDrill x = Calls.of(FIVE);
        due("no box", x.image(3), NONE);
        due("no box", x.image(-1), NONE);
        due("empty", x.back(2), NONE);
        due("no box", x.back(3), NONE);
        due("no box", x.back(-1), NONE);
        x.run(2);
        due("image", x.image(2), 2);
        x.order(0, 1);
        x.run(4);
        x.undo();
        x.sight(0, 0, 0);
        x.later(3);
        due("back", x.back(2), 2);
        dueRow("as it was", x, "10001");
        due("no acts to undo", x.about(4), 0);
        due("no acts to redo", x.about(5), 0);
        due("the time goes on", x.about(7), 3);
        due("sights stay", x.about(6), 1);
        x.run(1);
        due("kept anew", x.image(2), 3);
        x.run(9);
        due("back to the new one", x.back(2), 3);
        due("once more", x.back(2), 3);
        due("the others are empty", x.back(0) + x.back(1), 2 * NONE);
    }

    private static void about() {
        MirrorDrill x = Calls.of("moves 3;men 4;ring;rule a (left + (own)) * 2;rule b right;");
        int[] want = {4, 3, 2, 0, 0, 0, 0, 0, 0, 6, 1, 0, 0};
        for (int i = 0; i < want.length; i++) {
            due("about(" + i + ")", x.about(i), want[i]);
        }
        due("about(13)", x.about(13), NONE);
        due("about(-1)", x.about(-1), NONE);
        x.feed(1, 2, 3, 4, 5);
        due("bytes", x.about(8), 20);
    }
}
