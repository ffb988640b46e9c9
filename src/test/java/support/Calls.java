import java.nio.charset.StandardCharsets;
import java.util.Arrays;

/** Calls by name, and what every test counts. */
final class Calls {
    private static int checks = 0;
    private static int wrong = 0;

    private Calls() {
    }

    static long call(MirrorDrill x, String name, int... a) {
        switch (name) {
            case "feed": return x.feed(a[0], a[1], a[2], a[3], a[4]);
            case "end": return x.end(a[0]);
            case "drill": return x.drill();
            case "fault": return x.fault(a[0]);
            case "does": return x.does(a[0]);
            case "made": return x.made(a[0], a[1], a[2], a[3]);
            case "run": return x.run(a[0]);
            case "order": return x.order(a[0], a[1]);
            case "undo": return x.undo() ? 1 : 0;
            case "redo": return x.redo() ? 1 : 0;
            case "worth": return x.worth();
            case "round": return x.round(a[0]);
            case "before": return x.before();
            case "orphan": return x.orphan(a[0]);
            case "one": return x.one(a[0]);
            case "keeps": return x.keeps(a[0]);
            case "spread": return x.spread(a[0], a[1], a[2]);
            case "glint": return x.glint(a[0], a[1], a[2]);
            case "cracks": return x.cracks(a[0], a[1], a[2]);
            case "lies": return x.lies(a[0]);
            case "sight": return x.sight(a[0], a[1], a[2]);
            case "untell": return x.untell(a[0]) ? 1 : 0;
            case "later": return x.later(a[0]);
            case "unsure": return x.unsure(a[0]);
            case "fits": return x.fits(a[0]);
            case "sure": return x.sure(a[0], a[1]);
            case "wrong": return x.wrong(a[0], a[1]);
            case "image": return x.image(a[0]);
            case "back": return x.back(a[0]);
            case "about": return x.about(a[0]);
            default: throw new IllegalStateException(name);
        }
    }

    /** The arguments of the feed() calls that put a text on the tape, blanks behind it. */
    static int[][] feeds(String text) {
        byte[] bytes = text.getBytes(StandardCharsets.ISO_8859_1);
        byte[] padded = Arrays.copyOf(bytes, (bytes.length + 19) / 20 * 20);
        Arrays.fill(padded, bytes.length, padded.length, (byte) 32);
        int[][] calls = new int[padded.length / 20][5];
        for (int i = 0; i < padded.length; i++) {
            calls[i / 20][i % 20 / 4] |= (padded[i] & 255) << (24 - 8 * (i % 4));
        }
        return calls;
    }

    static void tape(MirrorDrill x, String text) {
        x.end(0);
        for (int[] a : feeds(text)) {
            x.feed(a[0], a[1], a[2], a[3], a[4]);
        }
        x.end(text.length());
    }

    /** A new object with this drill. */
    static MirrorDrill of(String text) {
        MirrorDrill x = new MirrorDrill();
        tape(x, text);
        if (x.drill() == MirrorDrill.NONE) {
            due("a text that should be a drill, fault " + x.fault(0) + " at " + x.fault(1) + ": " + text, 0, 1);
        }
        return x;
    }

    static void due(String what, long got, long want) {
        checks++;
        if (got != want) {
            wrong++;
            if (wrong <= 20) {
                System.out.println(what + " answered " + got + ", due is " + want);
            }
        }
    }

    static void due(String what, boolean got, boolean want) {
        due(what, got ? 1 : 0, want ? 1 : 0);
    }

    static boolean allGood() {
        return wrong == 0;
    }

    static void close(String name) {
        System.out.println(name + ": " + checks + " answers looked at, " + wrong + " wrong");
        if (wrong != 0) {
            System.exit(1);
        }
    }
}
