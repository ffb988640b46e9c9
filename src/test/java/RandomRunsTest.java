import java.util.Arrays;
import java.util.Map;
import java.util.TreeMap;

/** Runs of calls by chance (always the same ones), each answer beside that of the plain model. */
public final class RandomRunsTest {
    private static final String[] NAMES = {"does", "made", "run", "order", "order", "undo", "undo", "redo", "worth", "round",
        "before", "orphan", "one", "keeps", "spread", "glint", "glint", "cracks", "lies", "lies", "lies", "sight", "sight",
        "sight", "untell", "later", "unsure", "fits", "sure", "sure", "wrong", "wrong", "image", "back", "about", "about",
        "about", "fault", "end"};

    private static Make make;
    private static MirrorDrill x;
    private static Model model;
    private static StringBuilder story;
    /** How often each answer was due, for a look at what the runs reach (with a third argument). */
    private static Map<String, Integer> counted;

    private RandomRunsTest() {
    }

    public static void main(String[] args) {
        int runs = args.length > 0 ? Integer.parseInt(args[0]) : 600;
        long seed = args.length > 1 ? Long.parseLong(args[1]) : 1;
        counted = args.length > 2 ? new TreeMap<>() : null;
        for (int run = 0; run < runs && Calls.allGood(); run++) {
            make = new Make(seed * 1000003 + run);
            x = new MirrorDrill();
            model = new Model();
            story = new StringBuilder("run " + run + ": ");
            runOnce(run % 20 == 0 ? 30 : run % 5 == 0 ? 16 : 7);
        }
        longOrphans();
        if (counted != null) {
            System.out.println(counted);
        }
        Calls.close("RandomRunsTest");
    }

    /** Rules whose shortest unmade rows are longer than a regiment. */
    private static void longOrphans() {
        x = new MirrorDrill();
        model = new Model();
        story = new StringBuilder("long orphans: ");
        readText("moves 4;men 1;rule a left+right+(left=3 and own=3 and right=3)*2;"
            + "rule b left+own*2+right+(left=2 and own=2 and right=2)*2;"
            + "rule c left+own*3+right*3+(left=1 and own=1 and right=1)*2;"
            + "rule d left+right+(left=3 and own=2 and right=3)*3;");
        for (int rule = 0; rule < 4; rule++) {
            both("orphan", rule);
            for (int i = 0; i < 40; i++) {
                both("lies", i);
            }
            both("about", 11);
            both("one", rule);
        }
    }

    private static void runOnce(int mostMen) {
        for (int texts = 0; texts < 3; texts++) {
            readText(make.text(mostMen));
            for (int i = 0; i < 60; i++) {
                randomCall();
            }
            for (int i = 0; i < 6; i++) {
                readText(make.spoiled(make.text(mostMen)));
                if (model.call("fault", 0) != 0) {
                    both("end", 0);
                }
            }
        }
    }

    private static void readText(String text) {
        for (int[] a : Calls.feeds(text)) {
            both("feed", a);
        }
        both("end", text.length());
        story.append('"').append(text).append("\" ");
        both("drill");
        both("fault", 0);
        both("fault", 1);
        for (int i = 0; i < 13; i++) {
            both("about", i);
        }
    }

    private static int some(int below) {
        return make.one(12) ? make.below(3) - 1 + (make.one(2) ? below : 0) : make.below(Math.max(1, below));
    }

    private static void randomCall() {
        String name = NAMES[make.below(NAMES.length)];
        int men = model.men();
        int moves = model.moves();
        switch (name) {
            case "made" -> both(name, some(3), some(moves), some(moves), some(moves));
            case "run" -> both(name, make.one(8) ? some(501) : some(9));
            case "order" -> both(name, some(men), some(moves));
            case "undo", "redo", "worth", "before" -> both(name);
            case "round" -> both(name, some(2));
            case "orphan", "one", "keeps" -> both(name, some(3));
            case "spread" -> both(name, some(men), some(moves), make.one(8) ? some(201) : some(10));
            case "glint" -> both(name, some(men), some(moves), some(9));
            case "cracks" -> both(name, some(men), some(moves), some(31));
            case "sight" -> sight(men, moves);
            case "untell" -> both(name, some(6));
            case "later" -> both(name, make.one(6) ? some(1001) : some(4));
            case "unsure" -> both(name, make.one(8) ? make.below(1 << 30) - (1 << 28) : someMen(men));
            case "fits" -> both(name, someTime());
            case "sure" -> both(name, someUnsure(men), someTime());
            case "wrong" -> both(name, some(3), someTime());
            case "about" -> both(name, some(13));
            case "lies" -> both(name, some(6));
            case "fault" -> both(name, some(2));
            default -> both(name, some(Math.max(3, men)));
        }
    }

    /** Mostly what is so indeed, or else nothing would ever fit. */
    private static void sight(int men, int moves) {
        int man = some(men);
        int beat = make.one(5) ? some(31) : some(6);
        both("sight", beat, man, make.one(6) ? some(moves) : model.did(beat, man));
    }

    private static int someMen(int men) {
        int bits = 0;
        for (int i = 0; i < 3; i++) {
            bits |= 1 << make.below(Math.max(1, men));
        }
        return bits;
    }

    private static int someUnsure(int men) {
        int bits = (int) model.call("about", 12);
        return bits != 0 && !make.one(4) ? Integer.numberOfTrailingZeros(bits) : some(men);
    }

    private static int someTime() {
        int time = (int) model.call("about", 7);
        return make.one(2) ? time : time - make.below(6);
    }

    private static void both(String name, int... a) {
        if (!model.knowsLies() && (name.equals("lies") || name.equals("about") && a[0] == 11)) {
            return;
        }
        story.append(name).append(Arrays.toString(a)).append(' ');
        long got = Calls.call(x, name, a);
        long want = model.call(name, a);
        if (counted != null) {
            counted.merge(name + " " + (want == Model.UNKNOWN ? "unknown" : "" + want), 1, Integer::sum);
        }
        if (want != Model.UNKNOWN) {
            if (got != want) {
                System.out.println(story);
            }
            Calls.due(name + Arrays.toString(a), got, want);
        }
    }
}
