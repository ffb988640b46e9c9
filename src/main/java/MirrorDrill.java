import java.util.Arrays;

/**
 * The mirror regiment: men who do, beat by beat, what follows from what they see.
 *
 * A row is held in one long, two bits a man, man 0 in the lowest: thirty men and the
 * two cells at the ends just fill it, so that whatever a man sees is six bits side by side.
 */
public final class MirrorDrill {
    public static final int NONE = -1;

    private static final int SPENT = -2;
    private static final int CANNOT_BE = -2;
    private static final int NOT_ONE_MOVE = -2;

    private static final int MOST_BYTES = 1600;
    private static final int BYTES_FED = 20;
    private static final int MOST_MOVES = 4;
    private static final int MOST_MEN = 30;
    private static final int MOST_RULES = 6;
    private static final int MOST_BEATS_RUN = 500;
    private static final int MOST_BEATS = 100000;
    private static final int MOST_ACTS = 40;
    private static final int MOST_COURSE = 3000;
    private static final long MOST_BEFORE = 1000000000000000L;
    private static final int MOST_SPREAD_BEATS = 200;
    private static final int MOST_GLINT_BEATS = 8;
    private static final int MOST_GLINT_MEN = 3;
    private static final int MOST_CRACK_BEATS = 30;
    private static final int MOST_SIGHTS = 30;
    private static final int MOST_SIGHT_BEATS = 30;
    private static final int MOST_UNSURE = 6;
    private static final int MOST_LATER = 1000;
    private static final int MOST_TIME = 100000;
    private static final int BOXES = 3;

    /** What a man can see: left, own and right, two bits each, left in the lowest. */
    private static final int VIEWS = 64;
    /** What two men side by side can see. */
    private static final int PAIR_VIEWS = 256;

    private final int[] tape = new int[MOST_BYTES];
    private int taped = 0;
    private final Reader reader = new Reader();
    private Drill drill = new Drill();
    private Drill spare = new Drill();
    private int fault = 0;
    private int faultPlace = NONE;

    private final Earnest earnest = new Earnest();
    private final long[] boxRows = new long[BOXES];
    private final int[] boxBeats = {NONE, NONE, NONE};
    private final Pile pile = new Pile();
    private int time = 0;

    private final Course course = new Course();
    private final Forebears forebears = new Forebears();
    private final Endless endless = new Endless();
    private final Changes changes = new Changes();
    private final Witness witness = new Witness();

    public MirrorDrill() {
    }

    public int feed(int a, int b, int c, int d, int e) {
        if (taped + BYTES_FED > MOST_BYTES) {
            return NONE;
        }
        tapeNumber(a);
        tapeNumber(b);
        tapeNumber(c);
        tapeNumber(d);
        tapeNumber(e);
        return taped;
    }

    private void tapeNumber(int number) {
        for (int shift = 24; shift >= 0 && taped < MOST_BYTES; shift -= 8) {
            tape[taped] = (number >>> shift) & 255;
            taped++;
        }
    }

    public int end(int n) {
        if (n < 0 || n > taped) {
            return NONE;
        }
        taped = n;
        return n;
    }

    public int drill() {
        reader.begin(tape, taped, spare);
        boolean good = true;
        for (int lines = 0; lines < taped && good && reader.hasMore(); lines++) {
            good = reader.readLine();
        }
        fault = reader.faultFound();
        faultPlace = reader.placeOfFault();
        if (!good) {
            return NONE;
        }
        Drill former = drill;
        drill = spare;
        spare = former;
        drill.settle();
        taped = 0;
        earnest.begin(drill.first, 0);
        Arrays.fill(boxBeats, NONE);
        pile.clear();
        course.forget();
        witness.forget();
        return drill.men;
    }

    public int fault(int what) {
        if (what == 0) {
            return fault;
        }
        return what == 1 ? faultPlace : NONE;
    }

    public int does(int man) {
        return drill.isMan(man) ? cell(earnest.row(), man) : NONE;
    }

    public int made(int rule, int left, int own, int right) {
        if (!drill.isRule(rule) || !drill.isMove(left) || !drill.isMove(own) || !drill.isMove(right)) {
            return NONE;
        }
        return drill.makes(rule, view(left, own, right));
    }

    public int run(int beats) {
        if (beats < 0 || beats > MOST_BEATS_RUN || earnest.beats() + beats > MOST_BEATS) {
            return NONE;
        }
        earnest.act(drill.afterBeats(earnest.row(), beats), earnest.beats() + beats);
        return earnest.beats();
    }

    public int order(int man, int move) {
        if (!drill.isMan(man) || !drill.isMove(move)) {
            return NONE;
        }
        int did = cell(earnest.row(), man);
        earnest.act(with(earnest.row(), man, move), earnest.beats());
        return did;
    }

    public boolean undo() {
        return earnest.takeBack();
    }

    public boolean redo() {
        return earnest.doAgain();
    }

    public int worth() {
        return drill.worthOf(earnest.row());
    }

    public int round(int what) {
        if (what != 0 && what != 1) {
            return NONE;
        }
        if (!course.comesRound(drill, earnest.row())) {
            return SPENT;
        }
        return what == 0 ? course.tail() : course.loop();
    }

    public long before() {
        pile.clear();
        forebears.seek(drill, earnest.row());
        if (forebears.count() > 0) {
            for (int man = 0; man < drill.men; man++) {
                pile.add(forebears.firstDoes(man));
            }
        }
        return Math.min(forebears.count(), MOST_BEFORE);
    }

    public int orphan(int rule) {
        pile.clear();
        return drill.isRule(rule) ? endless.shortestUnmade(drill, rule, pile) : NONE;
    }

    public int one(int rule) {
        if (!drill.isRule(rule)) {
            return NONE;
        }
        return endless.isOneToOne(drill, rule) ? 1 : 0;
    }

    public int keeps(int rule) {
        if (!drill.isRule(rule)) {
            return NONE;
        }
        return endless.keepsWorth(drill, rule) ? 1 : 0;
    }

    public int spread(int man, int move, int n) {
        if (!drill.isMan(man) || !drill.isMove(move) || n < 0 || n > MOST_SPREAD_BEATS) {
            return NONE;
        }
        long plain = drill.afterBeats(earnest.row(), n);
        long changed = drill.afterBeats(with(earnest.row(), man, move), n);
        return differing(plain, changed);
    }

    public int glint(int man, int move, int n) {
        pile.clear();
        if (!drill.isMan(man) || !drill.isMove(move) || n < 0 || n > MOST_GLINT_BEATS) {
            return CANNOT_BE;
        }
        changes.aim(drill, earnest.row(), man, move, n);
        return changes.fewestOrdered(pile);
    }

    public int cracks(int man, int move, int n) {
        pile.clear();
        if (!drill.isMan(man) || !drill.isMove(move) || n < 1 || n > MOST_CRACK_BEATS) {
            return CANNOT_BE;
        }
        changes.aim(drill, earnest.row(), man, move, n);
        return changes.fewestCracked(pile);
    }

    public int lies(int i) {
        return pile.number(i);
    }

    public int sight(int beat, int man, int move) {
        if (beat < 0 || beat > MOST_SIGHT_BEATS || !drill.isMan(man) || !drill.isMove(move)) {
            return NONE;
        }
        return witness.tell(beat, man, move, time);
    }

    public boolean untell(int sight) {
        return witness.takeAway(sight, time);
    }

    public int later(int by) {
        if (by < 0 || by > MOST_LATER || time + by > MOST_TIME) {
            return NONE;
        }
        time += by;
        return time;
    }

    public int unsure(int men) {
        if ((men >>> drill.men) != 0 || Integer.bitCount(men) > MOST_UNSURE) {
            return NONE;
        }
        witness.doubt(men);
        return Integer.bitCount(men);
    }

    public int fits(int k) {
        return witness.fitting(drill, k);
    }

    public int sure(int man, int k) {
        if (!drill.isMan(man) || !witness.doubts(man) || witness.fitting(drill, k) == 0) {
            return NONE;
        }
        int moves = witness.movesThatFit(man);
        for (int move = 0; move < drill.moves; move++) {
            if (moves == 1 << move) {
                return move;
            }
        }
        return NOT_ONE_MOVE;
    }

    public int wrong(int what, int k) {
        switch (what) {
            case 0:
                return witness.nothingWrong(drill, k) ? 1 : 0;
            case 1:
                return witness.menMaybeCracked(drill, k);
            case 2:
                return witness.menMaybeWindowed(drill, k);
            default:
                return NONE;
        }
    }

    public int image(int box) {
        if (box < 0 || box >= BOXES) {
            return NONE;
        }
        boxRows[box] = earnest.row();
        boxBeats[box] = earnest.beats();
        return boxBeats[box];
    }

    public int back(int box) {
        if (box < 0 || box >= BOXES || boxBeats[box] == NONE) {
            return NONE;
        }
        earnest.begin(boxRows[box], boxBeats[box]);
        return boxBeats[box];
    }

    public int about(int what) {
        switch (what) {
            case 0:
                return drill.men;
            case 1:
                return drill.moves;
            case 2:
                return drill.rules;
            case 3:
                return earnest.beats();
            case 4:
                return earnest.actsDone();
            case 5:
                return earnest.actsTakenBack();
            case 6:
                return witness.sights();
            case 7:
                return time;
            case 8:
                return taped;
            case 9:
                return drill.units;
            case 10:
                return drill.ring ? 1 : 0;
            case 11:
                return pile.size();
            case 12:
                return witness.doubted();
            default:
                return NONE;
        }
    }

    private static int view(int left, int own, int right) {
        return left + 4 * own + 16 * right;
    }

    private static int cell(long row, int man) {
        return (int) (row >>> (2 * man)) & 3;
    }

    private static long with(long row, int man, int move) {
        int shift = 2 * man;
        return (row & ~(3L << shift)) | ((long) move << shift);
    }

    private static int differing(long one, long other) {
        long bits = one ^ other;
        return Long.bitCount((bits | (bits >>> 1)) & 0x5555555555555555L);
    }

    /** What a text tells, and what comes of a row by a beat. */
    static final class Drill {
        int moves = 2;
        int men = 0;
        int rules = 0;
        int units = 0;
        int edge = 0;
        boolean ring = false;
        int turned = 0;
        int cracked = 0;
        long first = 0;
        final int[] ruleOf = new int[MOST_MEN];
        final int[] windows = new int[MOST_MEN];
        final int[] worths = {0, 1, 2, 3};
        private final byte[] table = new byte[MOST_RULES * VIEWS];
        private byte[] steps = new byte[0];
        private byte[] pairSteps = new byte[0];

        void clear() {
            moves = 2;
            men = 0;
            rules = 0;
            units = 0;
            edge = 0;
            ring = false;
            turned = 0;
            cracked = 0;
            first = 0;
            Arrays.fill(ruleOf, 0);
            Arrays.fill(windows, NONE);
            for (int move = 0; move < MOST_MOVES; move++) {
                worths[move] = move;
            }
        }

        boolean isMan(int man) {
            return man >= 0 && man < men;
        }

        boolean isMove(int move) {
            return move >= 0 && move < moves;
        }

        boolean isRule(int rule) {
            return rule >= 0 && rule < rules;
        }

        /** A formula's value becomes a move. */
        void setMade(int rule, int seen, int value) {
            table[rule * VIEWS + seen] = (byte) (moves > 0 ? Math.floorMod(value, moves) : 0);
        }

        int makes(int rule, int seen) {
            return table[rule * VIEWS + seen];
        }

        /** Lays out what each man, and each two, do by all they can see, so that a beat only looks up. */
        void settle() {
            if (men > 0 && steps.length == 0) {
                steps = new byte[MOST_MEN * VIEWS];
                pairSteps = new byte[MOST_MEN / 2 * PAIR_VIEWS];
            }
            for (int man = 0; man < men; man++) {
                for (int seen = 0; seen < VIEWS; seen++) {
                    steps[man * VIEWS + seen] = (byte) told(man, seen & 3, (seen >> 2) & 3, seen >> 4);
                }
            }
            for (int man = 0; man < men; man += 2) {
                for (int seen = 0; seen < PAIR_VIEWS; seen++) {
                    int other = man + 1 < men ? doesBy(man + 1, seen >> 2) : 0;
                    pairSteps[man / 2 * PAIR_VIEWS + seen] = (byte) (doesBy(man, seen & (VIEWS - 1)) | (other << 2));
                }
            }
        }

        private int told(int man, int left, int own, int right) {
            if (windows[man] != NONE) {
                return throughWindow(man, windows[man], own);
            }
            if (stays(man)) {
                return own;
            }
            boolean about = ((turned >> man) & 1) != 0;
            return makes(ruleOf[man], about ? view(right, own, left) : view(left, own, right));
        }

        int throughWindow(int man, int shown, int own) {
            return stays(man) ? own : makes(ruleOf[man], view(shown, own, shown));
        }

        private boolean stays(int man) {
            return rules == 0 || isCracked(man);
        }

        boolean isCracked(int man) {
            return ((cracked >> man) & 1) != 0;
        }

        /** The row with what is seen at its two ends, moved up by one cell. */
        private long widened(long row) {
            long left = ring ? cell(row, men - 1) : edge;
            long right = ring ? cell(row, 0) : edge;
            return (row << 2) | left | (right << (2 * men + 2));
        }

        int doesBy(int man, int seen) {
            return steps[man * VIEWS + seen];
        }

        /** What the men of a stretch do next, two at a time: one beside it may be among them. */
        private long stepsOf(long wide, int from, int to) {
            byte[] pairs = pairSteps;
            long next = 0;
            int at = from / 2 * PAIR_VIEWS;
            int end = 2 * to;
            for (int shift = from / 2 * 4; shift <= end; shift += 4) {
                next |= (long) pairs[at + ((int) (wide >>> shift) & (PAIR_VIEWS - 1))] << shift;
                at += PAIR_VIEWS;
            }
            return next;
        }

        long after(long row) {
            return men == 0 ? row : stepsOf(widened(row), 0, men - 1);
        }

        /** Like after, but good only for the men within reach of one. */
        long afterNear(long row, int man, int reach) {
            long wide = widened(row);
            if (2 * reach + 1 >= men) {
                return stepsOf(wide, 0, men - 1);
            }
            int from = man - reach;
            int to = man + reach;
            long next = stepsOf(wide, Math.max(from, 0), Math.min(to, men - 1));
            if (ring && from < 0) {
                next |= stepsOf(wide, from + men, men - 1);
            }
            if (ring && to >= men) {
                next |= stepsOf(wide, 0, to - men);
            }
            return next;
        }

        boolean isNear(int man, int other, int reach) {
            int apart = Math.abs(man - other);
            return apart <= reach || (ring && men - apart <= reach);
        }

        long afterBeats(long row, int beats) {
            long now = row;
            for (int beat = 0; beat < beats; beat++) {
                now = after(now);
            }
            return now;
        }

        int worthOf(long row) {
            int sum = 0;
            for (int man = 0; man < men; man++) {
                sum += worths[cell(row, man)];
            }
            return sum;
        }
    }

    /** Reads a text into a drill, token by token, up to its first fault. */
    static final class Reader {
        private static final int NO_TOKEN = 1;
        private static final int MISPLACED = 2;
        private static final int TOLD_ALREADY = 3;
        private static final int BAD_NUMBER = 4;
        private static final int NO_SUCH_RULE = 5;

        private static final int LONGEST_WORD = 8;
        private static final int LONGEST_NUMBER = 4;
        private static final int MOST_UNITS = 90;
        private static final int MOST_UNITS_IN_ONE = 30;
        private static final int MOST_WITHIN = 7;

        /** Tokens: a sign is its byte, a word that stands for itself its number in WORDS from MOVES on. */
        private static final int END = 0;
        private static final int BAD = 1;
        private static final int NUMBER = 2;
        private static final int NAME = 3;
        private static final String SIGNS = ";()<>=+-*/%";
        private static final String WORDS =
            "moves men ring edge rule man worth does by turned cracked window or and not left own right ";
        private static final int MOVES = 256;
        private static final int MEN = 257;
        private static final int RING = 258;
        private static final int EDGE = 259;
        private static final int RULE = 260;
        private static final int MAN = 261;
        private static final int WORTH = 262;
        private static final int DOES = 263;
        private static final int BY = 264;
        private static final int TURNED = 265;
        private static final int CRACKED = 266;
        private static final int WINDOW = 267;
        private static final int OR = 268;
        private static final int AND = 269;
        private static final int NOT = 270;
        private static final int LEFT = 271;
        private static final int OWN = 272;
        private static final int RIGHT = 273;

        /** The levels of a formula, from what binds least to what binds most. */
        private static final int WHOLE = 0;
        private static final int BOTH = 1;
        private static final int ONE = 2;
        private static final int SUM = 3;
        private static final int TERM = 4;
        private static final int UNIT = 5;

        private int[] text = new int[0];
        private int length;
        private int at;
        private int token;
        private int place;
        private int value;
        private long name;
        private Drill target;
        private int toldLines;
        private int toldMen;
        private final long[] names = new long[MOST_RULES];
        private int unitsInOne;
        /** Values of parts of a formula, each for all views at once: so a formula is read but once. */
        private final int[] parts = new int[MOST_UNITS_IN_ONE * VIEWS];
        private int top;
        private int fault;
        private int faultPlace;

        int faultFound() {
            return fault;
        }

        int placeOfFault() {
            return faultPlace;
        }

        void begin(int[] bytes, int count, Drill into) {
            text = bytes;
            length = Math.min(count, bytes.length);
            target = into;
            at = 0;
            toldLines = 0;
            toldMen = 0;
            fault = 0;
            faultPlace = NONE;
            target.clear();
            advance();
        }

        boolean hasMore() {
            return token != END;
        }

        private boolean refuse(int kind) {
            fault = token == BAD ? NO_TOKEN : kind;
            faultPlace = place;
            return false;
        }

        private void advance() {
            while (at < length && isBlank(text[at])) {
                at++;
            }
            place = at;
            if (at >= length) {
                token = END;
            } else if (isLetter(text[at])) {
                packWord();
                token = at - place > LONGEST_WORD ? BAD : wordToken(name);
            } else if (isDigit(text[at])) {
                scanNumber();
            } else {
                token = SIGNS.indexOf((char) text[at]) >= 0 ? text[at] : BAD;
                at++;
            }
        }

        private static boolean isBlank(int c) {
            return c == 32 || c == 10;
        }

        private static boolean isLetter(int c) {
            return c >= 'a' && c <= 'z';
        }

        private static boolean isDigit(int c) {
            return c >= '0' && c <= '9';
        }

        /** A word as a number, five bits a letter: one longer than a name can be is never looked at. */
        private void packWord() {
            name = 0;
            while (at < length && isLetter(text[at])) {
                name = name * 32 + (text[at] - 'a' + 1);
                at++;
            }
        }

        private void scanNumber() {
            value = 0;
            while (at < length && isDigit(text[at])) {
                value = value * 10 + text[at] - '0';
                at++;
            }
            boolean good = at - place <= LONGEST_NUMBER && (at >= length || !isLetter(text[at]));
            token = good ? NUMBER : BAD;
        }

        private static int wordToken(long sought) {
            int found = MOVES;
            long word = 0;
            for (int i = 0; i < WORDS.length(); i++) {
                char c = WORDS.charAt(i);
                if (c != ' ') {
                    word = word * 32 + (c - 'a' + 1);
                } else if (word == sought) {
                    return found;
                } else {
                    found++;
                    word = 0;
                }
            }
            return NAME;
        }

        private boolean expect(int wanted) {
            if (token != wanted) {
                return refuse(MISPLACED);
            }
            advance();
            return true;
        }

        /** The number that stands here, or NONE, refused. */
        private int takeNumber(int least, int most) {
            if (token != NUMBER) {
                refuse(MISPLACED);
                return NONE;
            }
            if (value < least || value > most) {
                refuse(BAD_NUMBER);
                return NONE;
            }
            int taken = value;
            advance();
            return taken;
        }

        private int takeMove() {
            return takeNumber(0, target.moves - 1);
        }

        private boolean isTold(int line) {
            return ((toldLines >> (line - MOVES)) & 1) != 0;
        }

        private boolean startsLine(int word) {
            switch (word) {
                case MOVES:
                    return !isTold(MOVES);
                case MEN:
                    return isTold(MOVES) && !isTold(MEN);
                case RING:
                case EDGE:
                case WORTH:
                    return isTold(MEN) && !isTold(word);
                case RULE:
                    return isTold(MEN) && target.rules < MOST_RULES;
                case MAN:
                    return isTold(MEN);
                default:
                    return false;
            }
        }

        boolean readLine() {
            int word = token;
            if (!startsLine(word)) {
                return refuse(MISPLACED);
            }
            toldLines |= 1 << (word - MOVES);
            advance();
            boolean good = true;
            switch (word) {
                case MOVES:
                    target.moves = takeNumber(2, MOST_MOVES);
                    good = target.moves != NONE;
                    break;
                case MEN:
                    target.men = takeNumber(1, MOST_MEN);
                    good = target.men != NONE;
                    break;
                case EDGE:
                    target.edge = takeMove();
                    good = target.edge != NONE;
                    break;
                case RULE:
                    good = readRule();
                    break;
                case MAN:
                    good = readMan();
                    break;
                case WORTH:
                    good = readWorths();
                    break;
                default:
                    target.ring = true;
            }
            return good && expect(';');
        }

        private boolean readWorths() {
            for (int move = 0; move < target.moves; move++) {
                target.worths[move] = takeNumber(0, 99);
                if (target.worths[move] == NONE) {
                    return false;
                }
            }
            return true;
        }

        private int ruleNamed(long sought) {
            for (int rule = 0; rule < target.rules; rule++) {
                if (names[rule] == sought) {
                    return rule;
                }
            }
            return NONE;
        }

        private boolean readRule() {
            if (token != NAME) {
                return refuse(MISPLACED);
            }
            if (ruleNamed(name) != NONE) {
                return refuse(TOLD_ALREADY);
            }
            int rule = target.rules;
            names[rule] = name;
            advance();
            unitsInOne = 0;
            top = 0;
            if (!readFormula(WHOLE, 0)) {
                return false;
            }
            for (int seen = 0; seen < VIEWS; seen++) {
                target.setMade(rule, seen, parts[seen]);
            }
            target.rules++;
            return true;
        }

        private boolean readMan() {
            if (token == NUMBER && value < target.men && ((toldMen >> value) & 1) != 0) {
                return refuse(TOLD_ALREADY);
            }
            int man = takeNumber(0, target.men - 1);
            if (man == NONE || !expect(DOES)) {
                return false;
            }
            toldMen |= 1 << man;
            int move = takeMove();
            if (move == NONE) {
                return false;
            }
            target.first = with(target.first, man, move);
            return readBy(man) && readMarks(man) && readWindow(man);
        }

        private boolean readBy(int man) {
            if (token != BY) {
                return true;
            }
            advance();
            if (token != NAME) {
                return refuse(MISPLACED);
            }
            int rule = ruleNamed(name);
            if (rule == NONE) {
                return refuse(NO_SUCH_RULE);
            }
            target.ruleOf[man] = rule;
            advance();
            return true;
        }

        private boolean readMarks(int man) {
            if (token == TURNED) {
                target.turned |= 1 << man;
                advance();
            }
            if (token == CRACKED) {
                target.cracked |= 1 << man;
                advance();
            }
            return true;
        }

        private boolean readWindow(int man) {
            if (token != WINDOW) {
                return true;
            }
            advance();
            target.windows[man] = takeMove();
            return target.windows[man] != NONE;
        }

        /** Reads one level of a formula; its value lies on top of the parts then. */
        private boolean readFormula(int level, int within) {
            if (level == UNIT) {
                return readUnit(within);
            }
            if (level == ONE && token == NOT) {
                return readNot(within);
            }
            if (!readFormula(level + 1, within)) {
                return false;
            }
            int most = level == ONE ? 1 : MOST_UNITS_IN_ONE;
            for (int joins = 0; joins < most && level == levelOf(token); joins++) {
                int sign = token;
                advance();
                if (!readFormula(level + 1, within)) {
                    return false;
                }
                joinParts(sign);
            }
            return true;
        }

        private static int levelOf(int sign) {
            switch (sign) {
                case OR:
                    return WHOLE;
                case AND:
                    return BOTH;
                case '<':
                case '>':
                case '=':
                    return ONE;
                case '+':
                case '-':
                    return SUM;
                case '*':
                case '/':
                case '%':
                    return TERM;
                default:
                    return NONE;
            }
        }

        private boolean readNot(int within) {
            if (within >= MOST_WITHIN) {
                return refuse(MISPLACED);
            }
            advance();
            if (!readFormula(ONE, within + 1)) {
                return false;
            }
            for (int seen = 0; seen < VIEWS && top > 0; seen++) {
                int part = (top - 1) * VIEWS + seen;
                parts[part] = parts[part] == 0 ? 1 : 0;
            }
            return true;
        }

        private boolean readUnit(int within) {
            boolean opens = token == '(';
            boolean plain = token == NUMBER || token == LEFT || token == OWN || token == RIGHT;
            if (!opens && !plain) {
                return refuse(MISPLACED);
            }
            if (unitsInOne >= MOST_UNITS_IN_ONE || target.units >= MOST_UNITS || (opens && within >= MOST_WITHIN)) {
                return refuse(MISPLACED);
            }
            unitsInOne++;
            target.units++;
            if (plain) {
                layPart();
            }
            advance();
            return plain || (readFormula(WHOLE, within + 1) && expect(')'));
        }

        private void layPart() {
            for (int seen = 0; seen < VIEWS && top < MOST_UNITS_IN_ONE; seen++) {
                parts[top * VIEWS + seen] = valueOf(seen);
            }
            top++;
        }

        private int valueOf(int seen) {
            switch (token) {
                case LEFT:
                    return seen & 3;
                case OWN:
                    return (seen >> 2) & 3;
                case RIGHT:
                    return seen >> 4;
                default:
                    return value;
            }
        }

        private void joinParts(int sign) {
            if (top < 2) {
                return;
            }
            top--;
            for (int seen = 0; seen < VIEWS; seen++) {
                int part = (top - 1) * VIEWS + seen;
                parts[part] = joined(sign, parts[part], parts[part + VIEWS]);
            }
        }

        private static int joined(int sign, int a, int b) {
            switch (sign) {
                case '+':
                    return a + b;
                case '-':
                    return a - b;
                case '*':
                    return a * b;
                case '/':
                    return b == 0 ? 0 : a / b;
                case '%':
                    return b == 0 ? 0 : a % b;
                case '<':
                    return a < b ? 1 : 0;
                case '>':
                    return a > b ? 1 : 0;
                case '=':
                    return a == b ? 1 : 0;
                case AND:
                    return a != 0 && b != 0 ? 1 : 0;
                default:
                    return a != 0 || b != 0 ? 1 : 0;
            }
        }
    }

    /** The row in earnest, with the states that its acts led from and to. */
    static final class Earnest {
        private final long[] rows = new long[MOST_ACTS + 1];
        private final int[] beatsThen = new int[MOST_ACTS + 1];
        private int now = 0;
        private int last = 0;

        void begin(long row, int beats) {
            now = 0;
            last = 0;
            rows[0] = row;
            beatsThen[0] = beats;
        }

        long row() {
            return rows[now];
        }

        int beats() {
            return beatsThen[now];
        }

        void act(long row, int beats) {
            if (now < MOST_ACTS) {
                now++;
            } else {
                System.arraycopy(rows, 1, rows, 0, MOST_ACTS);
                System.arraycopy(beatsThen, 1, beatsThen, 0, MOST_ACTS);
            }
            rows[now] = row;
            beatsThen[now] = beats;
            last = now;
        }

        boolean takeBack() {
            if (now == 0) {
                return false;
            }
            now--;
            return true;
        }

        boolean doAgain() {
            if (now == last) {
                return false;
            }
            now++;
            return true;
        }

        int actsDone() {
            return now;
        }

        int actsTakenBack() {
            return last - now;
        }
    }

    /** The numbers that lie there. */
    static final class Pile {
        private int[] numbers = new int[MOST_MEN];
        private int count = 0;

        void clear() {
            count = 0;
        }

        int size() {
            return count;
        }

        int number(int i) {
            return i >= 0 && i < count ? numbers[i] : NONE;
        }

        void add(int number) {
            reserve(count + 1);
            put(count - 1, number);
        }

        /** Makes it so many numbers long; those that come anew are put by the caller. */
        void reserve(int size) {
            if (size > numbers.length) {
                numbers = Arrays.copyOf(numbers, Math.max(size, 2 * numbers.length));
            }
            count = size;
        }

        void put(int i, int number) {
            if (i >= 0 && i < count) {
                numbers[i] = number;
            }
        }
    }

    /** When a row comes round again. */
    static final class Course {
        private long[] rows = new long[0];
        private boolean known = false;
        private long knownRow;
        private int tail;
        private int loop;

        void forget() {
            known = false;
        }

        int tail() {
            return tail;
        }

        int loop() {
            return loop;
        }

        boolean comesRound(Drill drill, long row) {
            if (!known || knownRow != row) {
                follow(drill, row);
                known = true;
                knownRow = row;
            }
            return loop != NONE;
        }

        private void follow(Drill drill, long row) {
            if (rows.length == 0) {
                rows = new long[MOST_COURSE + 1];
            }
            loop = findLoop(drill, row);
            tail = 0;
            while (loop != NONE && tail + loop < MOST_COURSE && rows[tail] != rows[tail + loop]) {
                tail++;
            }
        }

        /**
         * A mark that goes on at each power of two stops short courses early; in one that is
         * not spent the last row is in the loop, so it stood before if the mark missed it.
         */
        private int findLoop(Drill drill, long row) {
            rows[0] = row;
            int mark = 0;
            for (int beat = 1; beat <= MOST_COURSE; beat++) {
                rows[beat] = drill.after(rows[beat - 1]);
                if (rows[beat] == rows[mark]) {
                    return beat - mark;
                }
                if (beat >= 2 * mark) {
                    mark = beat;
                }
            }
            for (int beat = MOST_COURSE - 1; beat >= 0; beat--) {
                if (rows[beat] == rows[MOST_COURSE]) {
                    return MOST_COURSE - beat;
                }
            }
            return NONE;
        }
    }

    /** The rows from which one beat leads to a row. */
    static final class Forebears {
        private long[] ways = new long[0];
        private Drill drill;
        private long goal;
        private long count;
        private long firstKey;

        long count() {
            return count;
        }

        int firstDoes(int man) {
            return cell(firstKey, drill.men - 1 - man);
        }

        void seek(Drill drill, long goal) {
            this.drill = drill;
            this.goal = goal;
            count = 0;
            firstKey = NONE;
            if (ways.length == 0) {
                ways = new long[MOST_MEN * MOST_MOVES * MOST_MOVES];
            }
            if (drill.men == 0) {
                count = 1;
            } else if (drill.ring) {
                seekInRing();
            } else {
                layWays(drill.edge, NONE);
                for (int own = 0; own < drill.moves; own++) {
                    addUp(drill.edge, own);
                }
            }
        }

        /** A ring is a row whose ends see one another: each pair of what both ends did is tried. */
        private void seekInRing() {
            for (int own = 0; own < drill.moves; own++) {
                for (int last = 0; last < drill.moves; last++) {
                    layWays(own, last);
                    addUp(last, own);
                }
            }
        }

        private static int wayAt(int man, int left, int own) {
            return (man * MOST_MOVES + left) * MOST_MOVES + own;
        }

        /** For each man, by what the one ahead and he himself did: how many ways those behind can have done. */
        private void layWays(int edge, int last) {
            for (int man = drill.men - 1; man >= 0; man--) {
                for (int left = 0; left < drill.moves; left++) {
                    for (int own = 0; own < drill.moves; own++) {
                        ways[wayAt(man, left, own)] = man == drill.men - 1
                            ? waysAtEnd(left, own, edge, last) : waysBehind(man, left, own);
                    }
                }
            }
        }

        private long waysAtEnd(int left, int own, int edge, int last) {
            boolean may = (last == NONE || own == last) && leads(drill.men - 1, left, own, edge);
            return may ? 1 : 0;
        }

        private long waysBehind(int man, int left, int own) {
            long sum = 0;
            int wanted = cell(goal, man);
            for (int right = 0; right < drill.moves; right++) {
                if (drill.doesBy(man, view(left, own, right)) == wanted) {
                    sum += ways[wayAt(man + 1, own, right)];
                }
            }
            return sum;
        }

        private boolean leads(int man, int left, int own, int right) {
            return drill.doesBy(man, view(left, own, right)) == cell(goal, man);
        }

        private void addUp(int left, int own) {
            long found = ways[wayAt(0, left, own)];
            if (found == 0) {
                return;
            }
            count += found;
            long key = keyOfFirst(left, own);
            if (firstKey == NONE || key < firstKey) {
                firstKey = key;
            }
        }

        /** The first row as a number in which man 0 counts most. */
        private long keyOfFirst(int left, int own) {
            int ahead = left;
            int here = own;
            long key = own;
            for (int man = 0; man < drill.men - 1; man++) {
                int right = firstBehind(man, ahead, here);
                key = key * 4 + right;
                ahead = here;
                here = right;
            }
            return key;
        }

        private int firstBehind(int man, int left, int own) {
            int right = 0;
            while (right < drill.moves - 1
                && (!leads(man, left, own, right) || ways[wayAt(man + 1, own, right)] == 0)) {
                right++;
            }
            return right;
        }
    }

    /** What can be said of a rule alone, in endless rows. */
    static final class Endless {
        private static final int LEAST_QUEUE = 64;
        private static final int MOST_PAIRS = MOST_MOVES * MOST_MOVES;
        private static final int MOST_SETS = 1 << MOST_PAIRS;
        private static final int MOST_RING = 6;

        private Drill drill;
        private int rule;
        private int moves;
        private int pairs;
        /** By four bits of a set of pairs: the sets that come behind it, 16 bits for each move made. */
        private final long[] leads = new long[4 * 16];
        /** Sets found, in the lower half, with the place of the one they came of. */
        private int[] queue = new int[LEAST_QUEUE];
        private int queued;
        private int[] met = new int[0];
        private final int[] alike = new int[MOST_PAIRS];
        private final int[] gains = new int[VIEWS];

        private void take(Drill drill, int rule) {
            this.drill = drill;
            this.rule = rule;
            moves = drill.moves;
            pairs = moves * moves;
        }

        private int makes(int left, int own, int right) {
            return drill.makes(rule, view(left, own, right));
        }

        private int leftOf(int pair) {
            return moves > 0 ? pair / moves : 0;
        }

        private int ownOf(int pair) {
            return moves > 0 ? pair % moves : 0;
        }

        /**
         * Goes through the sets of pairs (the last two moves of what can have been there) by the
         * moves made, shortest and first ones ahead, till nothing can have been there.
         */
        int shortestUnmade(Drill drill, int rule, Pile pile) {
            take(drill, rule);
            layLeads();
            beginQueue();
            for (int head = 0; head < queued && head < MOST_SETS; head++) {
                long behind = behind(queue[head] & 0xFFFF);
                for (int move = 0; move < moves; move++) {
                    int set = (int) (behind >>> (16 * move)) & 0xFFFF;
                    if (set == 0) {
                        return layWord(head, move, pile);
                    }
                    enqueue(set, head);
                }
            }
            return 0;
        }

        private void layLeads() {
            for (int part = 0; part < 4; part++) {
                for (int bits = 0; bits < 16; bits++) {
                    long sum = 0;
                    for (int bit = 0; bit < 4; bit++) {
                        if (((bits >> bit) & 1) != 0) {
                            sum |= leadsOf(4 * part + bit);
                        }
                    }
                    leads[16 * part + bits] = sum;
                }
            }
        }

        private long leadsOf(int pair) {
            long sum = 0;
            if (pair < pairs) {
                int left = leftOf(pair);
                int own = ownOf(pair);
                for (int right = 0; right < moves; right++) {
                    sum |= 1L << (16 * makes(left, own, right) + own * moves + right);
                }
            }
            return sum;
        }

        private long behind(int set) {
            return leads[set & 15] | leads[16 + ((set >> 4) & 15)]
                | leads[32 + ((set >> 8) & 15)] | leads[48 + ((set >> 12) & 15)];
        }

        private void beginQueue() {
            int words = Math.max(1, (1 << pairs) / 32);
            if (met.length < words) {
                met = new int[words];
            }
            Arrays.fill(met, 0);
            queued = 0;
            enqueue((1 << pairs) - 1, 0);
        }

        private void enqueue(int set, int from) {
            int bit = 1 << (set & 31);
            if ((met[set >> 5] & bit) != 0) {
                return;
            }
            met[set >> 5] |= bit;
            if (queued == queue.length) {
                queue = Arrays.copyOf(queue, 2 * queue.length);
            }
            queue[queued] = (from << 16) | set;
            queued++;
        }

        private int layWord(int last, int move, Pile pile) {
            int length = 1;
            for (int at = last; at > 0 && length <= queued; at = queue[at] >>> 16) {
                length++;
            }
            pile.reserve(length);
            pile.put(length - 1, move);
            int at = last;
            for (int i = length - 2; i >= 0; i--) {
                int from = queue[at] >>> 16;
                pile.put(i, moveBetween(queue[from] & 0xFFFF, queue[at] & 0xFFFF));
                at = from;
            }
            return length;
        }

        private int moveBetween(int from, int to) {
            long behind = behind(from);
            int move = 0;
            while (move < moves - 1 && ((int) (behind >>> (16 * move)) & 0xFFFF) != to) {
                move++;
            }
            return move;
        }

        /**
         * Two endless rows that do alike walk side by side through pairs of pairs; those that
         * nothing leads to or that lead to nothing fall away till only those on endless walks stay.
         */
        boolean isOneToOne(Drill drill, int rule) {
            take(drill, rule);
            Arrays.fill(alike, (1 << pairs) - 1);
            boolean thinned = true;
            for (int pass = 0; pass <= MOST_PAIRS * MOST_PAIRS && thinned; pass++) {
                thinned = thinOut();
            }
            for (int pair = 0; pair < pairs; pair++) {
                if (alike[pair] != 1 << pair) {
                    return false;
                }
            }
            return true;
        }

        private boolean thinOut() {
            boolean thinned = false;
            for (int one = 0; one < pairs; one++) {
                for (int other = 0; other < pairs; other++) {
                    if (walkTogether(one, other) && !(goesOn(one, other) && cameFrom(one, other))) {
                        alike[one] &= ~(1 << other);
                        thinned = true;
                    }
                }
            }
            return thinned;
        }

        private boolean walkTogether(int one, int other) {
            return ((alike[one] >> other) & 1) != 0;
        }

        private boolean goesOn(int one, int other) {
            for (int right = 0; right < moves; right++) {
                int made = makes(leftOf(one), ownOf(one), right);
                for (int next = 0; next < moves; next++) {
                    if (made == makes(leftOf(other), ownOf(other), next)
                        && walkTogether(ownOf(one) * moves + right, ownOf(other) * moves + next)) {
                        return true;
                    }
                }
            }
            return false;
        }

        private boolean cameFrom(int one, int other) {
            for (int left = 0; left < moves; left++) {
                int made = makes(left, leftOf(one), ownOf(one));
                for (int last = 0; last < moves; last++) {
                    if (made == makes(last, leftOf(other), ownOf(other))
                        && walkTogether(left * moves + leftOf(one), last * moves + leftOf(other))) {
                        return true;
                    }
                }
            }
            return false;
        }

        boolean keepsWorth(Drill drill, int rule) {
            take(drill, rule);
            for (int seen = 0; seen < VIEWS; seen++) {
                gains[seen] = drill.worths[drill.makes(rule, seen)] - drill.worths[(seen >> 2) & 3];
            }
            for (int men = 1; men <= MOST_RING; men++) {
                for (int ring = 0; ring < 1 << (2 * men); ring++) {
                    if (isRing(ring, men) && gainOf(ring, men) != 0) {
                        return false;
                    }
                }
            }
            return true;
        }

        private boolean isRing(int ring, int men) {
            for (int man = 0; man < men; man++) {
                if (cell(ring, man) >= moves) {
                    return false;
                }
            }
            return true;
        }

        private int gainOf(int ring, int men) {
            int wide = (ring << 2) | cell(ring, men - 1) | (cell(ring, 0) << (2 * men + 2));
            int sum = 0;
            for (int man = 0; man < men; man++) {
                sum += gains[(wide >>> (2 * man)) & (VIEWS - 1)];
            }
            return sum;
        }
    }

    /** What must be changed now so that a man does a told move some beats later. */
    static final class Changes {
        private Drill drill;
        private long start;
        private int target;
        private int wanted;
        private int beats;
        /** What comes without a change, as far as it matters, behind each beat. */
        private final long[] plain = new long[MOST_CRACK_BEATS + 1];
        private int size;
        private final int[] men = new int[MOST_GLINT_MEN];
        private final int[] moves = new int[MOST_GLINT_MEN];

        void aim(Drill drill, long row, int man, int move, int n) {
            this.drill = drill;
            start = row;
            target = man;
            wanted = move;
            beats = n;
            plain[0] = row;
            for (int beat = 1; beat <= beats; beat++) {
                plain[beat] = drill.afterNear(plain[beat - 1], target, beats - beat);
            }
        }

        private boolean isSoAnyway() {
            return cell(plain[beats], target) == wanted;
        }

        int fewestOrdered(Pile pile) {
            if (isSoAnyway()) {
                return 0;
            }
            for (size = 1; size <= MOST_GLINT_MEN; size++) {
                if (orderMen(0, 0)) {
                    layMen(pile);
                    for (int i = 0; i < size; i++) {
                        pile.add(moves[i]);
                    }
                    return size;
                }
            }
            return NONE;
        }

        private void layMen(Pile pile) {
            for (int i = 0; i < size; i++) {
                pile.add(men[i]);
            }
        }

        /** Men too far away can't matter, so they are in no smallest set. */
        private boolean orderMen(int picked, int from) {
            if (picked >= size) {
                return orderMoves(0, start);
            }
            for (int man = from; man < drill.men; man++) {
                men[picked] = man;
                if (drill.isNear(target, man, beats) && orderMen(picked + 1, man + 1)) {
                    return true;
                }
            }
            return false;
        }

        private boolean orderMoves(int picked, long row) {
            if (picked >= size) {
                return comesTrue(row);
            }
            int man = men[picked];
            for (int move = 0; move < drill.moves; move++) {
                moves[picked] = move;
                if (move != cell(start, man) && orderMoves(picked + 1, with(row, man, move))) {
                    return true;
                }
            }
            return false;
        }

        private boolean comesTrue(long row) {
            long now = row;
            for (int beat = 1; beat <= beats; beat++) {
                now = drill.afterNear(now, target, beats - beat);
                if (now == plain[beat]) {
                    return false;
                }
            }
            return cell(now, target) == wanted;
        }

        int fewestCracked(Pile pile) {
            if (isSoAnyway()) {
                return 0;
            }
            for (size = 1; size <= 2; size++) {
                if (crackMen(0, 0, 0)) {
                    layMen(pile);
                    return size;
                }
            }
            return NONE;
        }

        private boolean crackMen(int picked, int from, long cracked) {
            if (picked >= size) {
                return comesTrueCracked(cracked);
            }
            for (int man = from; man < drill.men; man++) {
                men[picked] = man;
                if (drill.isNear(target, man, beats) && crackMen(picked + 1, man + 1, cracked | (3L << (2 * man)))) {
                    return true;
                }
            }
            return false;
        }

        private boolean comesTrueCracked(long cracked) {
            long now = start;
            for (int beat = 1; beat <= beats; beat++) {
                now = (drill.afterNear(now, target, beats - beat) & ~cracked) | (now & cracked);
            }
            return cell(now, target) == wanted;
        }
    }

    /** What was seen of the beginning, and what follows from it. */
    static final class Witness {
        private final int[] beatOf = new int[MOST_SIGHTS];
        private final int[] manOf = new int[MOST_SIGHTS];
        private final int[] moveOf = new int[MOST_SIGHTS];
        private final int[] toldAt = new int[MOST_SIGHTS];
        private final int[] untoldAt = new int[MOST_SIGHTS];
        private int sights = 0;
        private int unsureMen = 0;

        /** What must be so behind each beat, by the sights that count: which cells, and what is in them. */
        private final long[] cells = new long[MOST_SIGHT_BEATS + 1];
        private final long[] contents = new long[MOST_SIGHT_BEATS + 1];
        private int lastBeat;
        private boolean clash;
        private Drill drill;

        private final int[] unsureOnes = new int[MOST_UNSURE];
        private boolean known = false;
        private int knownSights;
        private int fitting;
        private final int[] movesFitting = new int[MOST_MEN];

        void forget() {
            sights = 0;
            unsureMen = 0;
            known = false;
        }

        int sights() {
            return sights;
        }

        int tell(int beat, int man, int move, int time) {
            if (sights >= MOST_SIGHTS) {
                return NONE;
            }
            beatOf[sights] = beat;
            manOf[sights] = man;
            moveOf[sights] = move;
            toldAt[sights] = time;
            untoldAt[sights] = NONE;
            sights++;
            return sights - 1;
        }

        boolean takeAway(int sight, int time) {
            if (sight < 0 || sight >= sights || untoldAt[sight] != NONE) {
                return false;
            }
            untoldAt[sight] = time;
            return true;
        }

        void doubt(int men) {
            unsureMen = men;
            known = false;
        }

        int doubted() {
            return unsureMen;
        }

        boolean doubts(int man) {
            return ((unsureMen >> man) & 1) != 0;
        }

        private boolean counts(int sight, int k) {
            return toldAt[sight] <= k && (untoldAt[sight] == NONE || untoldAt[sight] > k);
        }

        /** Lays out what must be so as known at k; answers which sights count, as bits. */
        private int gather(Drill drill, int k) {
            this.drill = drill;
            Arrays.fill(cells, 0);
            Arrays.fill(contents, 0);
            lastBeat = 0;
            clash = false;
            int counting = 0;
            for (int sight = 0; sight < sights; sight++) {
                if (counts(sight, k)) {
                    counting |= 1 << sight;
                    demand(beatOf[sight], manOf[sight], moveOf[sight]);
                }
            }
            return counting;
        }

        private void demand(int beat, int man, int move) {
            boolean demanded = cell(cells[beat], man) != 0;
            if (demanded && cell(contents[beat], man) != move) {
                clash = true;
            }
            cells[beat] = with(cells[beat], man, 3);
            contents[beat] = with(contents[beat], man, move);
            lastBeat = Math.max(lastBeat, beat);
        }

        /** Whether all is as seen from a first row on, with a man more cracked or at a window, or NONE. */
        private boolean holds(long first, int cracked, int windowed, int shown) {
            long row = first;
            boolean good = !clash && isAsSeen(row, 0);
            for (int beat = 1; beat <= lastBeat && good; beat++) {
                long next = drill.after(row);
                if (cracked != NONE) {
                    next = with(next, cracked, cell(row, cracked));
                }
                if (windowed != NONE) {
                    next = with(next, windowed, drill.throughWindow(windowed, shown, cell(row, windowed)));
                }
                row = next;
                good = isAsSeen(row, beat);
            }
            return good;
        }

        private boolean isAsSeen(long row, int beat) {
            return ((row ^ contents[beat]) & cells[beat]) == 0;
        }

        int fitting(Drill drill, int k) {
            int counting = gather(drill, k);
            if (!known || counting != knownSights) {
                tryAll();
                known = true;
                knownSights = counting;
            }
            return fitting;
        }

        int movesThatFit(int man) {
            return movesFitting[man];
        }

        private int listUnsure() {
            int count = 0;
            for (int man = 0; man < drill.men && count < MOST_UNSURE; man++) {
                if (doubts(man)) {
                    unsureOnes[count] = man;
                    count++;
                }
            }
            return count;
        }

        private void tryAll() {
            int count = listUnsure();
            int cases = 1;
            for (int i = 0; i < count; i++) {
                cases *= drill.moves;
            }
            fitting = 0;
            Arrays.fill(movesFitting, 0);
            for (int number = 0; number < cases; number++) {
                long row = rowOfCase(number, count);
                if (holds(row, NONE, NONE, NONE)) {
                    fitting++;
                    noteMoves(row, count);
                }
            }
        }

        private long rowOfCase(int number, int count) {
            long row = drill.first;
            int rest = number;
            for (int i = 0; i < count && drill.moves > 0; i++) {
                row = with(row, unsureOnes[i], rest % drill.moves);
                rest /= drill.moves;
            }
            return row;
        }

        private void noteMoves(long row, int count) {
            for (int i = 0; i < count; i++) {
                movesFitting[unsureOnes[i]] |= 1 << cell(row, unsureOnes[i]);
            }
        }

        boolean nothingWrong(Drill drill, int k) {
            gather(drill, k);
            return holds(drill.first, NONE, NONE, NONE);
        }

        int menMaybeCracked(Drill drill, int k) {
            gather(drill, k);
            int men = 0;
            for (int man = 0; man < drill.men; man++) {
                if (!drill.isCracked(man) && holds(drill.first, man, NONE, NONE)) {
                    men |= 1 << man;
                }
            }
            return men;
        }

        int menMaybeWindowed(Drill drill, int k) {
            gather(drill, k);
            int men = 0;
            for (int man = 0; man < drill.men; man++) {
                for (int shown = 0; shown < drill.moves; shown++) {
                    if (shown != drill.windows[man] && holds(drill.first, NONE, man, shown)) {
                        men |= 1 << man;
                    }
                }
            }
            return men;
        }
    }
}
