/**
 * A new object under a sentence of the document. Nothing is promised beyond 512 calls, so they
 * are counted; what a refused call must leave as it was is looked at before and behind it.
 */
final class Trial {
    static final int NONE = MirrorDrill.NONE;
    private static final int MOST_CALLS = 512;

    private static String sentence = "";
    private static int sentences = 0;

    private final MirrorDrill x = new MirrorDrill();
    private int calls = 0;
    /** The state as it was looked at last, if nothing was called since. */
    private String state = null;

    private Trial() {
    }

    /** From here on the answers are due by this sentence, quoted from the document. */
    static void sentence(String quoted) {
        sentence = quoted;
        sentences++;
    }

    static void close(String name) {
        System.out.println(name + ": " + sentences + " sentences");
        Calls.close(name);
    }

    static Trial fresh() {
        return new Trial();
    }

    static Trial of(String text) {
        Trial trial = new Trial();
        trial.tape(text);
        if (trial.call("drill") == NONE) {
            claim("this should be a drill: " + text + " (fault " + trial.call("fault", 0)
                + " at " + trial.call("fault", 1) + ")", 0, 1);
        }
        return trial;
    }

    private static void claim(String what, long got, long want) {
        Calls.due("\"" + sentence + "\": " + what, got, want);
    }

    static void claim(String what, boolean holds) {
        claim(what, holds ? 1 : 0, 1);
    }

    /** A text that is a drill of so many men. */
    static Trial good(String text, int men) {
        Trial trial = new Trial();
        trial.tape(text);
        claim("drill of " + text, trial.call("drill"), men);
        claim("fault of " + text, trial.call("fault", 0), 0);
        claim("place in " + text, trial.call("fault", 1), NONE);
        return trial;
    }

    /** The place is where a caret stands, which is no part of the text; without one it is the text's end. */
    static void fault(int kind, String marked) {
        int caret = marked.indexOf('^');
        String text = marked.replace("^", "");
        faultAt(kind, caret < 0 ? text.length() : caret, text);
    }

    static void faultAt(int kind, int place, String text) {
        Trial trial = new Trial();
        trial.tape(text);
        claim("drill of " + text, trial.call("drill"), NONE);
        claim("fault of " + text, trial.call("fault", 0), kind);
        claim("place in " + text, trial.call("fault", 1), place);
    }

    /** What a formula makes of left 1, own 2, right 3 among four moves. */
    static void makes(int want, String formula) {
        Trial trial = Trial.of("moves 4;men 1;rule a " + formula + ";");
        claim("made of " + formula, trial.call("made", 0, 1, 2, 3), want);
    }

    long call(String name, int... args) {
        state = null;
        return silent(name, args);
    }

    private long silent(String name, int... args) {
        calls++;
        if (calls == MOST_CALLS + 1) {
            claim("the test makes too many calls on one object", 0, 1);
        }
        return Calls.call(x, name, args);
    }

    /** Puts a text on the tape in place of what is there. */
    Trial tape(String text) {
        call("end", 0);
        for (int[] a : Calls.feeds(text)) {
            call("feed", a);
        }
        call("end", text.length());
        return this;
    }

    Trial due(long want, String name, int... args) {
        claim(written(name, args), call(name, args), want);
        return this;
    }

    /** The same call again and again. */
    Trial times(int count, String name, int... args) {
        for (int i = 0; i < count; i++) {
            call(name, args);
        }
        return this;
    }

    /** The call is refused with this answer, and all is as it was. */
    Trial refused(long want, String name, int... args) {
        String before = state == null ? lookWithFault() : state;
        claim(written(name, args), call(name, args), want);
        String behind = lookWithFault();
        claim(written(name, args) + " changed\n  " + before + " to\n  " + behind, before.equals(behind));
        state = behind;
        return this;
    }

    /** The text on the tape has this fault, and all else is as it was. */
    Trial refusedDrill(int kind, int place) {
        String before = look();
        claim("drill()", call("drill"), NONE);
        String behind = look();
        claim("drill() changed\n  " + before + " to\n  " + behind, before.equals(behind));
        return due(kind, "fault", 0).due(place, "fault", 1);
    }

    /** What all MEN do now, one digit each. */
    Trial row(String want) {
        for (int man = 0; man < want.length(); man++) {
            due(want.charAt(man) - '0', "does", man);
        }
        return due(NONE, "does", want.length());
    }

    /** All that lies there. */
    Trial lie(int... want) {
        due(want.length, "about", 11);
        for (int i = 0; i < want.length; i++) {
            due(want[i], "lies", i);
        }
        return due(NONE, "lies", want.length);
    }

    private String lookWithFault() {
        StringBuilder seen = new StringBuilder(look());
        look(seen, "fault", 2);
        return seen.toString();
    }

    /** All that can be seen without a change, but for the boxes and the fault. */
    private String look() {
        StringBuilder seen = new StringBuilder("about");
        for (int what = 0; what <= 12; what++) {
            seen.append(' ').append(silent("about", what));
        }
        look(seen, "does", (int) silent("about", 0));
        look(seen, "lies", (int) silent("about", 11));
        look(seen, "round", 2);
        seen.append(" worth ").append(silent("worth"));
        int time = (int) silent("about", 7);
        seen.append(" fits ").append(silent("fits", time));
        for (int what = 0; what <= 2; what++) {
            seen.append(" wrong ").append(silent("wrong", what, time));
        }
        return seen.toString();
    }

    private void look(StringBuilder seen, String name, int count) {
        seen.append(' ').append(name);
        for (int i = 0; i < count; i++) {
            seen.append(' ').append(silent(name, i));
        }
    }

    private static String written(String name, int... args) {
        StringBuilder call = new StringBuilder(name).append('(');
        for (int i = 0; i < args.length; i++) {
            call.append(i == 0 ? "" : ", ").append(args[i]);
        }
        return call.append(')').toString();
    }
}
