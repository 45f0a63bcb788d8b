/**
 * Tape loops that are spliced at silences and played at unlike speeds till they meet again.
 * The document ../shared/DOC.md says what each method does.
 */
public final class SplicedLoops {
    /** There is no such result. */
    public static final int NONE = -1;

    private static final int MOST_REELS = 3;
    private static final int MOST_REEL_CELLS = 60;
    private static final int MOST_LOOPS = 4;
    private static final int MOST_LOOP_CELLS = 48;
    private static final int MOST_TAPES = 6;
    private static final int MOST_STATES = 12;
    private static final int MOST_SIGNS = 120;
    private static final int MOST_NUMBERS = 4;
    private static final int LOUDEST_SOUND = 9;
    private static final int FASTEST = 9;
    private static final int MOST_TICKS = 999;
    private static final int FARTHEST_TICK = 1000000;

    // The actions bear the letters that the text has for them; unsplice has none there.
    private static final int REEL = 'r';
    private static final int PAINT = 'p';
    private static final int LOOP = 'l';
    private static final int SPLICE = 'c';
    private static final int UNSPLICE = 'u';
    private static final int SPEED = 'v';
    private static final int MUTE = 'm';
    private static final int TICKS = 't';
    private static final int RECORD = 'w';

    // Why an action is not done: the face throws for it, texts, scripts and simulations leave it out.
    private static final int FINE = 0;
    private static final int NO_SUCH = 1;
    private static final int OUT_OF_RANGE = 2;
    private static final int NOT_NOW = 3;

    private final Studio now = new Studio();
    private final Studio trial = new Studio();
    private final Past past = new Past();
    private final Slot slot0 = new Slot();
    private final Slot slot1 = new Slot();
    private final Text text = new Text();

    public SplicedLoops() {
    }

    // ---- text

    public int append(int c) throws IllegalArgumentException, IllegalStateException {
        if (outside(c, 0, 255)) {
            throw new IllegalArgumentException("not a character code");
        }
        if (text.isFull()) {
            throw new IllegalStateException("the text is full");
        }
        return text.add(c);
    }

    public int clearText() {
        return text.empty();
    }

    public int errorPosition() {
        return text.firstError();
    }

    public int load() throws IllegalStateException {
        if (text.firstError() != NONE) {
            throw new IllegalStateException("the text is not a studio");
        }
        now.clear();
        past.forget();
        slot0.filled = false;
        slot1.filled = false;
        int leftOut = 0;
        text.begin();
        for (int i = 0; i < MOST_SIGNS && text.readCommand(); i++) {
            if (!now.perform(text.letter, text.number(0), text.number(1), text.number(2), text.number(3))) {
                leftOut++;
            }
        }
        return leftOut;
    }

    // ---- what there is

    public int about(int what) throws IllegalArgumentException {
        if (outside(what, 0, 7)) {
            throw new IllegalArgumentException("no such number");
        }
        switch (what) {
            case 0: return now.reelCount;
            case 1: return now.loopCount;
            case 2: return now.time;
            case 3: return now.soundBehind(0);
            case 4: return now.loopsWithTape();
            case 5: return now.mutedLoops();
            case 6: return now.loopCells();
            default: return now.refused;
        }
    }

    public int reelOf(int r, int what) throws IndexOutOfBoundsException, IllegalArgumentException {
        Reel one = now.reelAt(r);
        if (one == null) {
            throw new IndexOutOfBoundsException("no such reel");
        }
        if (outside(what, 0, 4)) {
            throw new IllegalArgumentException("no such number");
        }
        switch (what) {
            case 0: return one.length;
            case 1: return one.countRows(true);
            case 2: return one.countRows(false);
            case 3: return one.sumOfSounds();
            default: return one.longestSilence();
        }
    }

    public int sound(int r, int c) throws IndexOutOfBoundsException {
        Reel one = now.reelAt(r);
        if (one == null || !one.hasCell(c)) {
            throw new IndexOutOfBoundsException("no such reel or cell");
        }
        return get(one.cells, c);
    }

    public int silence(int r, int k, int what) throws IndexOutOfBoundsException, IllegalArgumentException {
        Reel one = now.reelAt(r);
        if (one == null || one.startOfRow(k, true) == NONE) {
            throw new IndexOutOfBoundsException("no such reel or silence");
        }
        if (outside(what, 0, 2)) {
            throw new IllegalArgumentException("no such number");
        }
        int start = one.startOfRow(k, true);
        switch (what) {
            case 0: return start;
            case 1: return one.rowLength(start);
            default: return one.firstQuiet(start);
        }
    }

    public int piece(int r, int k, int what) throws IndexOutOfBoundsException, IllegalArgumentException {
        Reel one = now.reelAt(r);
        if (one == null || one.startOfRow(k, false) == NONE) {
            throw new IndexOutOfBoundsException("no such reel or piece");
        }
        if (outside(what, 0, 2)) {
            throw new IllegalArgumentException("no such number");
        }
        int start = one.startOfRow(k, false);
        switch (what) {
            case 0: return start;
            case 1: return one.rowLength(start);
            default: return one.greatestSound(start);
        }
    }

    public int loopOf(int l, int what) throws IndexOutOfBoundsException, IllegalArgumentException {
        Loop one = now.loopAt(l);
        if (one == null) {
            throw new IndexOutOfBoundsException("no such loop");
        }
        if (outside(what, 0, 8)) {
            throw new IllegalArgumentException("no such number");
        }
        switch (what) {
            case 0: return one.length;
            case 1: return one.p;
            case 2: return one.q;
            case 3: return one.phase;
            case 4: return one.headIn(one.phase);
            case 5: return get(one.cells, one.headIn(one.phase));
            case 6: return one.muted ? 1 : 0;
            case 7: return one.period();
            default: return one.tapes;
        }
    }

    public int cell(int l, int c) throws IndexOutOfBoundsException {
        Loop one = now.loopAt(l);
        if (one == null || outside(c, 0, one.length - 1)) {
            throw new IndexOutOfBoundsException("no such loop or cell");
        }
        return get(one.cells, c);
    }

    // ---- actions

    public int reel(int n) throws IllegalArgumentException, IllegalStateException {
        return act(REEL, n, 0, 0, 0);
    }

    public int paint(int r, int from, int to, int v) throws IndexOutOfBoundsException, IllegalArgumentException {
        return act(PAINT, r, from, to, v);
    }

    public int loop() throws IllegalStateException {
        return act(LOOP, 0, 0, 0, 0);
    }

    public int splice(int l, int r, int from, int to) throws IndexOutOfBoundsException {
        return act(SPLICE, l, r, from, to);
    }

    public int unsplice(int l) throws IndexOutOfBoundsException, IllegalStateException {
        return act(UNSPLICE, l, 0, 0, 0);
    }

    public int speed(int l, int p, int q) throws IndexOutOfBoundsException, IllegalArgumentException {
        return act(SPEED, l, p, q, 0);
    }

    public int mute(int l, boolean on) throws IndexOutOfBoundsException {
        return act(MUTE, l, on ? 1 : 0, 0, 0);
    }

    public int ticks(int n) throws IllegalArgumentException {
        return act(TICKS, n, 0, 0, 0);
    }

    public int record(int r, int n) throws IndexOutOfBoundsException, IllegalArgumentException {
        return act(RECORD, r, n, 0, 0);
    }

    public int undo() throws IllegalStateException {
        if (past.count == 0) {
            throw new IllegalStateException("no state is remembered");
        }
        return past.takeBack(now);
    }

    private int act(int action, int a, int b, int c, int d) {
        throwFor(now.whyNot(action, a, b, c, d));
        past.remember(now);
        return now.carryOut(action, a, b, c, d);
    }

    private static void throwFor(int why) {
        if (why == NO_SUCH) {
            throw new IndexOutOfBoundsException("no such reel, cell, place or loop");
        }
        if (why == OUT_OF_RANGE) {
            throw new IllegalArgumentException("an argument is out of its range");
        }
        if (why == NOT_NOW) {
            throw new IllegalStateException("not in this state");
        }
    }

    // ---- what would be, if nothing else is done

    public int soundIn(int n) throws IllegalArgumentException {
        if (outside(n, 0, FARTHEST_TICK)) {
            throw new IllegalArgumentException("n is out of range");
        }
        return now.soundBehind(n);
    }

    public int meet(int l, int l2, int way) throws IndexOutOfBoundsException, IllegalArgumentException {
        Loop first = now.loopAt(l);
        Loop second = now.loopAt(l2);
        if (first == null || second == null) {
            throw new IndexOutOfBoundsException("no such loop");
        }
        if (outside(way, 0, 1)) {
            throw new IllegalArgumentException("no such way");
        }
        return way == 0 ? Meeting.byGoing(first, second) : Meeting.byDivisor(first, second);
    }

    public int meetAll() {
        return Meeting.ofAll(now);
    }

    public int loudest(int n, int what) throws IllegalArgumentException {
        if (outside(n, 1, 2000) || outside(what, 0, 1)) {
            throw new IllegalArgumentException("n or what is out of range");
        }
        int greatest = now.soundBehind(0);
        int when = 0;
        for (int t = 1; t <= n; t++) {
            int heard = now.soundBehind(t);
            if (heard > greatest) {
                greatest = heard;
                when = t;
            }
        }
        return what == 0 ? greatest : when;
    }

    public int turnedBy(int l, int l2) throws IndexOutOfBoundsException {
        Loop first = now.loopAt(l);
        Loop second = now.loopAt(l2);
        if (first == null || second == null) {
            throw new IndexOutOfBoundsException("no such loop");
        }
        if (first.length != second.length) {
            return NONE;
        }
        for (int k = 0; k < second.length; k++) {
            if (first.isTurned(second, k)) {
                return k;
            }
        }
        return NONE;
    }

    // ---- scripts, simulations

    public int runScript(int n, long script) throws IllegalArgumentException {
        if (outside(n, 1, 2)) {
            throw new IllegalArgumentException("n is out of range");
        }
        long tooGreat = n == 1 ? 10000000L : 100000000000000L;
        if (script < 0 || script >= tooGreat) {
            throw new IllegalArgumentException("the script is negative or has too many digits");
        }
        trial.copyFrom(now);
        int last = (int) (script % 10000000L);
        if (n == 1) {
            return trial.obeys(last) ? NONE : 0;
        }
        if (!trial.obeys((int) (script / 10000000L))) {
            return 0;
        }
        return trial.obeys(last) ? NONE : 1;
    }

    public int simulate(long seed, int m) throws IllegalArgumentException {
        if (outside(m, 1, 60)) {
            throw new IllegalArgumentException("m is out of range");
        }
        trial.copyFrom(now);
        long x = seed;
        for (int turn = 0; turn < m; turn++) {
            x = x * 6364136223846793005L + 1442695040888963407L;
            takeTurn((int) (x >>> 33));
        }
        return 1000 * trial.loopCells() + trial.soundBehind(0);
    }

    private void takeTurn(int r) {
        int q = r / 16;
        switch (r % 16) {
            case 0:
                trial.perform(REEL, 2 + q % 59, 0, 0, 0);
                break;
            case 1:
                trial.perform(LOOP, 0, 0, 0, 0);
                break;
            case 2: case 3: case 4:
                trial.perform(PAINT, q % 3, q / 4 % 60, q / 4 % 60 + q / 256 % 8, q / 2048 % 10);
                break;
            case 5: case 6: case 7: case 8:
                trial.perform(SPLICE, q % 4, q / 4 % 3, q / 16 % 61, q / 16 % 61 + 1 + q / 1024 % 20);
                break;
            case 9:
                trial.perform(SPEED, q % 4, 1 + q / 4 % 9, 1 + q / 64 % 9, 0);
                break;
            case 10:
                if (q / 8 % 2 == 0) {
                    trial.perform(MUTE, q % 4, q / 4 % 2, 0, 0);
                } else {
                    trial.perform(UNSPLICE, q % 4, 0, 0, 0);
                }
                break;
            case 11:
                trial.perform(RECORD, q % 3, 1 + q / 4 % 40, 0, 0);
                break;
            default:
                trial.perform(TICKS, 1 + q % 50, 0, 0, 0);
                break;
        }
    }

    // ---- save slots

    public int save(int slot) throws IndexOutOfBoundsException {
        Slot one = slotAt(slot);
        if (one == null) {
            throw new IndexOutOfBoundsException("no such save slot");
        }
        one.studio.copyFrom(now);
        one.filled = true;
        return now.time;
    }

    public int restore(int slot) throws IndexOutOfBoundsException, IllegalStateException {
        Slot one = slotAt(slot);
        if (one == null) {
            throw new IndexOutOfBoundsException("no such save slot");
        }
        if (!one.filled) {
            throw new IllegalStateException("nothing is saved there");
        }
        now.copyFrom(one.studio);
        past.forget();
        return now.time;
    }

    private Slot slotAt(int slot) {
        return slot == 0 ? slot0 : slot == 1 ? slot1 : null;
    }

    // ---- what all parts use

    private static boolean outside(int number, int least, int greatest) {
        return number < least || number > greatest;
    }

    private static int get(int[] row, int index) {
        return index < 0 || index >= row.length ? 0 : row[index];
    }

    private static void put(int[] row, int index, int value) {
        if (index >= 0 && index < row.length) {
            row[index] = value;
        }
    }

    private static void copyRow(int[] from, int[] to, int count) {
        int shortest = Math.min(from.length, to.length);
        System.arraycopy(from, 0, to, 0, Math.max(0, Math.min(count, shortest)));
    }

    /** Cells with sounds. Its rows of cells are its silences and its pieces. */
    private static final class Reel {
        private final int[] cells = new int[MOST_REEL_CELLS];
        private int length;

        private void begin(int n) {
            length = n;
            for (int c = 0; c < cells.length; c++) {
                cells[c] = 0;
            }
        }

        private void copyFrom(Reel other) {
            length = other.length;
            copyRow(other.cells, cells, other.length);
        }

        private boolean hasCell(int c) {
            return !outside(c, 0, length - 1);
        }

        private boolean hasPlace(int place) {
            return !outside(place, 0, length);
        }

        private boolean isSilent(int c) {
            return get(cells, c) == 0;
        }

        private boolean isQuiet(int place) {
            return place == 0 || place == length || get(cells, place - 1) == 0 && get(cells, place) == 0;
        }

        private boolean startsRow(int c, boolean silent) {
            return isSilent(c) == silent && (c == 0 || isSilent(c - 1) != silent);
        }

        private int countRows(boolean silent) {
            int count = 0;
            for (int c = 0; c < length; c++) {
                if (startsRow(c, silent)) {
                    count++;
                }
            }
            return count;
        }

        private int startOfRow(int k, boolean silent) {
            int count = 0;
            for (int c = 0; c < length; c++) {
                if (startsRow(c, silent)) {
                    if (count == k) {
                        return c;
                    }
                    count++;
                }
            }
            return NONE;
        }

        private int rowLength(int start) {
            int end = start;
            while (end < length && isSilent(end) == isSilent(start)) {
                end++;
            }
            return end - start;
        }

        private int firstQuiet(int start) {
            int end = start + rowLength(start);
            for (int place = start; place <= end; place++) {
                if (isQuiet(place)) {
                    return place;
                }
            }
            return NONE;
        }

        private int greatestSound(int start) {
            int end = start + rowLength(start);
            int greatest = 0;
            for (int c = start; c < end; c++) {
                greatest = Math.max(greatest, get(cells, c));
            }
            return greatest;
        }

        private int longestSilence() {
            int longest = 0;
            for (int c = 0; c < length; c++) {
                if (startsRow(c, true)) {
                    longest = Math.max(longest, rowLength(c));
                }
            }
            return longest;
        }

        private int sumOfSounds() {
            int sum = 0;
            for (int c = 0; c < length; c++) {
                sum += get(cells, c);
            }
            return sum;
        }

        private int lay(int from, int to, int v) {
            int changed = 0;
            for (int c = from; c <= to; c++) {
                if (get(cells, c) != v) {
                    put(cells, c, v);
                    changed++;
                }
            }
            return changed;
        }
    }

    /** Pieces of tape one behind the other, and the head that goes round on them. */
    private static final class Loop {
        private final int[] cells = new int[MOST_LOOP_CELLS];
        private final int[] tapeLengths = new int[MOST_TAPES];
        private int length;
        private int tapes;
        private int p;
        private int q;
        private int phase;
        private boolean muted;

        private void begin() {
            length = 0;
            tapes = 0;
            p = 1;
            q = 1;
            phase = 0;
            muted = false;
        }

        private void copyFrom(Loop other) {
            copyRow(other.cells, cells, other.length);
            copyRow(other.tapeLengths, tapeLengths, other.tapes);
            length = other.length;
            tapes = other.tapes;
            p = other.p;
            q = other.q;
            phase = other.phase;
            muted = other.muted;
        }

        private boolean isEmpty() {
            return length == 0;
        }

        private int phaseBehind(int n) {
            int phases = length * q;
            return phases <= 0 ? 0 : (phase + n * p) % phases;
        }

        /** The cell of the head in a phase. */
        private int headIn(int itsPhase) {
            return length == 0 || q <= 0 ? NONE : itsPhase / q;
        }

        private int heardBehind(int n) {
            return muted ? 0 : get(cells, headIn(phaseBehind(n)));
        }

        private int period() {
            int phases = length * q;
            int divisor = (int) Meeting.greatestDivisor(phases, p);
            return isEmpty() || divisor <= 0 ? NONE : phases / divisor;
        }

        /** The first of the times from, from + step, .. at which the phase is 0; NONE if it never is, or too late. */
        private int zeroFrom(long from, long step) {
            int rounds = period();
            long t = from;
            for (int i = 0; i < rounds && t <= FARTHEST_TICK; i++) {
                if (phaseBehind((int) t) == 0) {
                    return (int) t;
                }
                t += step;
            }
            return NONE;
        }

        private boolean isTurned(Loop other, int k) {
            for (int c = 0; c < length; c++) {
                int turned = c + k < length ? c + k : c + k - length;
                if (get(cells, c) != get(other.cells, turned)) {
                    return false;
                }
            }
            return true;
        }

        private void join(Reel reel, int from, int to) {
            for (int c = from; c < to; c++) {
                put(cells, length + c - from, get(reel.cells, c));
            }
            put(tapeLengths, tapes, to - from);
            length += to - from;
            tapes++;
            phase = 0;
        }

        private int takeOff() {
            tapes--;
            length -= get(tapeLengths, tapes);
            phase = 0;
            return length;
        }

        private int changeSpeed(int newP, int newQ) {
            phase = isEmpty() ? 0 : headIn(phase) * newQ;
            p = newP;
            q = newQ;
            return phase;
        }
    }

    /** When the phases of loops are 0 together. */
    private static final class Meeting {
        private static long greatestDivisor(long a, long b) {
            long greater = a;
            long less = b;
            // Euclid's rows are far shorter than this for any two longs.
            for (int i = 0; i < 200 && less != 0; i++) {
                long rest = greater % less;
                greater = less;
                less = rest;
            }
            return greater;
        }

        private static int byGoing(Loop first, Loop second) {
            int start = first.zeroFrom(0, 1);
            return start == NONE ? NONE : second.zeroFrom(start, first.period());
        }

        private static int byDivisor(Loop first, Loop second) {
            int start = first.zeroFrom(0, 1);
            int start2 = second.zeroFrom(0, 1);
            int divisor = (int) greatestDivisor(first.period(), second.period());
            if (start == NONE || start2 == NONE || divisor <= 0 || (start2 - start) % divisor != 0) {
                return NONE;
            }
            int rounds = second.period() / divisor;
            if (rounds <= 0) {
                return NONE;
            }
            int left = Math.floorMod((start2 - start) / divisor, rounds);
            int share = first.period() / divisor % rounds;
            return start + first.period() * (left * inverse(share, rounds) % rounds);
        }

        private static int inverse(int number, int modulus) {
            for (int x = 1; x < modulus; x++) {
                if (number * x % modulus == 1) {
                    return x;
                }
            }
            return 0;
        }

        private static int ofAll(Studio studio) {
            int time = NONE;
            long step = 1;
            for (int l = 0; l < studio.loopCount; l++) {
                Loop one = studio.loopAt(l);
                if (one != null && !one.isEmpty()) {
                    time = one.zeroFrom(Math.max(time, 0), step);
                    if (time == NONE) {
                        return NONE;
                    }
                    step = leastMultiple(step, one.period());
                }
            }
            return time;
        }

        private static long leastMultiple(long a, long b) {
            long divisor = greatestDivisor(a, b);
            return divisor <= 0 ? 0 : a / divisor * b;
        }
    }

    /** The state: all but the text and the save slots. */
    private static final class Studio {
        private final Reel[] reels = {new Reel(), new Reel(), new Reel()};
        private final Loop[] loops = {new Loop(), new Loop(), new Loop(), new Loop()};
        private int reelCount;
        private int loopCount;
        private int time;
        private int refused;

        private void clear() {
            reelCount = 0;
            loopCount = 0;
            time = 0;
            refused = 0;
        }

        private void copyFrom(Studio other) {
            reelCount = other.reelCount;
            loopCount = other.loopCount;
            time = other.time;
            refused = other.refused;
            for (int r = 0; r < reelCount; r++) {
                Reel to = reelAt(r);
                Reel from = other.reelAt(r);
                if (to != null && from != null) {
                    to.copyFrom(from);
                }
            }
            for (int l = 0; l < loopCount; l++) {
                Loop to = loopAt(l);
                Loop from = other.loopAt(l);
                if (to != null && from != null) {
                    to.copyFrom(from);
                }
            }
        }

        /** The reel of that number, null if there is none. */
        private Reel reelAt(int r) {
            return outside(r, 0, reelCount - 1) || r >= reels.length ? null : reels[r];
        }

        /** The loop of that number, null if there is none. */
        private Loop loopAt(int l) {
            return outside(l, 0, loopCount - 1) || l >= loops.length ? null : loops[l];
        }

        private int soundBehind(int n) {
            int sum = 0;
            for (int l = 0; l < loopCount; l++) {
                Loop one = loopAt(l);
                if (one != null) {
                    sum += one.heardBehind(n);
                }
            }
            return sum;
        }

        private int loopsWithTape() {
            int count = 0;
            for (int l = 0; l < loopCount; l++) {
                Loop one = loopAt(l);
                if (one != null && !one.isEmpty()) {
                    count++;
                }
            }
            return count;
        }

        private int mutedLoops() {
            int set = 0;
            for (int l = 0; l < loopCount; l++) {
                Loop one = loopAt(l);
                if (one != null && one.muted) {
                    set |= 1 << l;
                }
            }
            return set;
        }

        private int loopCells() {
            int sum = 0;
            for (int l = 0; l < loopCount; l++) {
                Loop one = loopAt(l);
                if (one != null) {
                    sum += one.length;
                }
            }
            return sum;
        }

        /** FINE, or why the action with these arguments, in the order of the face, throws an exception. */
        private int whyNot(int action, int a, int b, int c, int d) {
            switch (action) {
                case REEL:
                    return outside(a, 2, MOST_REEL_CELLS) ? OUT_OF_RANGE : reelCount < MOST_REELS ? FINE : NOT_NOW;
                case PAINT:
                    return whyNotPaint(reelAt(a), b, c, d);
                case LOOP:
                    return loopCount < MOST_LOOPS ? FINE : NOT_NOW;
                case SPLICE:
                    return whyNotSplice(loopAt(a), reelAt(b), c, d);
                case UNSPLICE:
                    return whyNotUnsplice(loopAt(a));
                case SPEED:
                    return loopAt(a) == null ? NO_SUCH
                        : outside(b, 1, FASTEST) || outside(c, 1, FASTEST) ? OUT_OF_RANGE : FINE;
                case MUTE:
                    return loopAt(a) == null ? NO_SUCH : FINE;
                case TICKS:
                    return outside(a, 1, MOST_TICKS) ? OUT_OF_RANGE : FINE;
                case RECORD:
                    return whyNotRecord(reelAt(a), b);
                default:
                    return NOT_NOW;
            }
        }

        private static int whyNotPaint(Reel reel, int from, int to, int v) {
            if (reel == null || !reel.hasCell(from) || !reel.hasCell(to)) {
                return NO_SUCH;
            }
            return to < from || outside(v, 0, LOUDEST_SOUND) ? OUT_OF_RANGE : FINE;
        }

        private static int whyNotSplice(Loop loop, Reel reel, int from, int to) {
            return loop == null || reel == null || !reel.hasPlace(from) || !reel.hasPlace(to) ? NO_SUCH : FINE;
        }

        private static int whyNotUnsplice(Loop loop) {
            return loop == null ? NO_SUCH : loop.isEmpty() ? NOT_NOW : FINE;
        }

        private static int whyNotRecord(Reel reel, int n) {
            return reel == null ? NO_SUCH : outside(n, 1, reel.length) ? OUT_OF_RANGE : FINE;
        }

        /** Does an action that is FINE; answers what the face does. */
        private int carryOut(int action, int a, int b, int c, int d) {
            switch (action) {
                case REEL:
                    return addReel(a);
                case PAINT:
                    return layOn(reelAt(a), b, c, d);
                case LOOP:
                    return addLoop();
                case SPLICE:
                    return joinTo(loopAt(a), reelAt(b), c, d);
                case UNSPLICE:
                    return takeOff(loopAt(a));
                case SPEED:
                    return changeSpeed(loopAt(a), b, c);
                case MUTE:
                    return changeMuted(loopAt(a), b == 1);
                case TICKS:
                    goOn(a);
                    return soundBehind(0);
                case RECORD:
                    return recordOn(reelAt(a), b);
                default:
                    return NONE;
            }
        }

        /** Whether the action is done: it is left out if it would throw an exception or the piece cannot be cut. */
        private boolean perform(int action, int a, int b, int c, int d) {
            if (whyNot(action, a, b, c, d) != FINE) {
                return false;
            }
            if (action == SPLICE && reasonAgainst(loopAt(a), reelAt(b), c, d) != 0) {
                return false;
            }
            carryOut(action, a, b, c, d);
            return true;
        }

        private int addReel(int n) {
            reelCount++;
            Reel added = reelAt(reelCount - 1);
            if (added != null) {
                added.begin(n);
            }
            return reelCount - 1;
        }

        private static int layOn(Reel reel, int from, int to, int v) {
            return reel == null ? 0 : reel.lay(from, to, v);
        }

        private int addLoop() {
            loopCount++;
            Loop added = loopAt(loopCount - 1);
            if (added != null) {
                added.begin();
            }
            return loopCount - 1;
        }

        private int joinTo(Loop loop, Reel reel, int from, int to) {
            int reason = reasonAgainst(loop, reel, from, to);
            if (reason != 0) {
                refused++;
            } else if (loop != null && reel != null) {
                loop.join(reel, from, to);
            }
            return reason;
        }

        private static int reasonAgainst(Loop loop, Reel reel, int from, int to) {
            if (loop == null || reel == null || to <= from) {
                return 1;
            }
            if (!reel.isQuiet(from)) {
                return 2;
            }
            if (!reel.isQuiet(to)) {
                return 3;
            }
            if (loop.length + to - from > MOST_LOOP_CELLS) {
                return 4;
            }
            return loop.tapes >= MOST_TAPES ? 5 : 0;
        }

        private static int takeOff(Loop loop) {
            return loop == null ? 0 : loop.takeOff();
        }

        private static int changeSpeed(Loop loop, int p, int q) {
            return loop == null ? 0 : loop.changeSpeed(p, q);
        }

        private int changeMuted(Loop loop, boolean on) {
            if (loop != null) {
                loop.muted = on;
            }
            return soundBehind(0);
        }

        private void goOn(int n) {
            for (int l = 0; l < loopCount; l++) {
                Loop one = loopAt(l);
                if (one != null) {
                    one.phase = one.phaseBehind(n);
                }
            }
            time += n;
        }

        private int recordOn(Reel reel, int n) {
            int sum = 0;
            for (int t = 0; t < n; t++) {
                int taken = Math.min(soundBehind(t), LOUDEST_SOUND);
                if (reel != null) {
                    put(reel.cells, t, taken);
                }
                sum += taken;
            }
            goOn(n);
            return sum;
        }

        /** Whether the command of a script, seven digits as one number, succeeds. */
        private boolean obeys(int group) {
            int d2 = group / 100000 % 10;
            int d3 = group / 10000 % 10;
            int d4 = group / 1000 % 10;
            switch (group / 1000000) {
                case 1:
                    return group / 1000 % 1000 == 0 && perform(TICKS, group % 1000, 0, 0, 0);
                case 2:
                    return perform(SPLICE, d2, d3, group / 100 % 100, group % 100);
                case 3:
                    return group % 1000 == 0 && perform(SPEED, d2, d3, d4, 0);
                case 4:
                    return group / 10 % 10000 == 0 && group % 10 <= 1 && perform(MUTE, d2, group % 10, 0, 0);
                case 5:
                    return group / 100 % 1000 == 0 && perform(RECORD, d2, group % 100, 0, 0);
                case 6:
                    return group / 100 % 10000 == 0 && soundBehind(0) >= group % 100;
                case 7:
                    return group / 1000 % 100 == 0 && hasPhase(loopAt(d2), group % 1000);
                case 8:
                    return group % 10000 == 0 && isAtZero(loopAt(d2)) && isAtZero(loopAt(d3));
                case 9:
                    return group / 1000 % 100 == 0 && hasSound(reelAt(d2), group / 10 % 100, group % 10);
                default:
                    return false;
            }
        }

        private static boolean hasPhase(Loop loop, int phase) {
            return loop != null && loop.phase == phase;
        }

        private static boolean isAtZero(Loop loop) {
            return loop != null && !loop.isEmpty() && loop.phase == 0;
        }

        private static boolean hasSound(Reel reel, int c, int v) {
            return reel != null && reel.hasCell(c) && get(reel.cells, c) == v;
        }
    }

    /** The remembered states; the newest one overwrites the oldest one. */
    private static final class Past {
        private final Studio[] states = new Studio[MOST_STATES];
        private int next;
        private int count;

        private Past() {
            for (int i = 0; i < states.length; i++) {
                states[i] = new Studio();
            }
        }

        private void forget() {
            count = 0;
        }

        private Studio stateAt(int i) {
            return outside(i, 0, states.length - 1) ? null : states[i];
        }

        private void remember(Studio studio) {
            Studio state = stateAt(next);
            if (state != null) {
                state.copyFrom(studio);
            }
            next = next + 1 < MOST_STATES ? next + 1 : 0;
            count = Math.min(count + 1, MOST_STATES);
        }

        private int takeBack(Studio studio) {
            next = next > 0 ? next - 1 : MOST_STATES - 1;
            count--;
            Studio state = stateAt(next);
            if (state != null) {
                studio.copyFrom(state);
            }
            return count;
        }
    }

    /** A save slot. */
    private static final class Slot {
        private final Studio studio = new Studio();
        private boolean filled;
    }

    /** The text buffer, and the reading of it, command by command. */
    private static final class Text {
        private final int[] signs = new int[MOST_SIGNS];
        private final int[] numbers = new int[MOST_NUMBERS];
        private int length;
        private int at;
        private int letter;

        private boolean isFull() {
            return length >= MOST_SIGNS;
        }

        private int add(int c) {
            put(signs, length, c);
            length++;
            return length;
        }

        private int empty() {
            int before = length;
            length = 0;
            return before;
        }

        private int signAt(int index) {
            return outside(index, 0, length - 1) ? NONE : get(signs, index);
        }

        private int number(int index) {
            return get(numbers, index);
        }

        /** Goes to the first command, behind the Z. */
        private void begin() {
            at = 1;
        }

        private int firstError() {
            if (signAt(0) != 'Z') {
                return 0;
            }
            begin();
            for (int i = 0; i < MOST_SIGNS && at < length; i++) {
                if (!readCommand()) {
                    return at;
                }
            }
            return NONE;
        }

        /** Reads the command that begins here; if none does or it has an error, the reading stops there. */
        private boolean readCommand() {
            letter = signAt(at);
            if (!isCommand(letter)) {
                return false;
            }
            at++;
            String kinds = kindsOf(letter);
            for (int i = 0; i < kinds.length(); i++) {
                if (!readNumber(i, kinds.charAt(i))) {
                    return false;
                }
            }
            return true;
        }

        private boolean readNumber(int index, int kind) {
            int least = leastOf(kind);
            int greatest = greatestOf(kind);
            int value = 0;
            for (int unit = greatest > 99 ? 100 : greatest > 9 ? 10 : 1; unit > 0; unit /= 10) {
                int digit = signAt(at) - '0';
                if (outside(digit, 0, 9)) {
                    return false;
                }
                value += digit * unit;
                // From value to value + unit - 1 are the numbers that begin with the digits so far.
                if (value > greatest || value + unit - 1 < least) {
                    return false;
                }
                at++;
            }
            put(numbers, index, value);
            return true;
        }

        private static boolean isCommand(int letter) {
            switch (letter) {
                case REEL: case PAINT: case LOOP: case SPLICE: case SPEED: case MUTE: case TICKS: case RECORD:
                    return true;
                default:
                    return false;
            }
        }

        /** The kinds of the numbers behind a letter: reel R, loop L, place or cell C, and those of one letter alone. */
        private static String kindsOf(int letter) {
            switch (letter) {
                case REEL: return "r";
                case PAINT: return "RCCp";
                case SPLICE: return "LRCC";
                case SPEED: return "Lvv";
                case MUTE: return "Lm";
                case TICKS: return "t";
                case RECORD: return "Rw";
                default: return "";
            }
        }

        private static int leastOf(int kind) {
            switch (kind) {
                case REEL: return 2;
                case SPEED: case TICKS: case RECORD: return 1;
                default: return 0;
            }
        }

        private static int greatestOf(int kind) {
            switch (kind) {
                case 'R': return MOST_REELS - 1;
                case 'L': return MOST_LOOPS - 1;
                case 'C': case REEL: case RECORD: return MOST_REEL_CELLS;
                case PAINT: return LOUDEST_SOUND;
                case SPEED: return FASTEST;
                case MUTE: return 1;
                default: return MOST_TICKS;
            }
        }
    }
}
