import java.util.ArrayDeque;
import java.util.ArrayList;
import java.util.List;

/** Does what the document says in the plainest way, tick by tick; only for tests. */
final class Model {
    static final int NONE = -1;

    static final class Tape {
        final List<Integer> cells = new ArrayList<>();
        final List<Integer> pieces = new ArrayList<>();
        int p = 1;
        int q = 1;
        int phase = 0;
        boolean muted = false;

        Tape copy() {
            Tape t = new Tape();
            t.cells.addAll(cells);
            t.pieces.addAll(pieces);
            t.p = p;
            t.q = q;
            t.phase = phase;
            t.muted = muted;
            return t;
        }

        void tick() {
            if (!cells.isEmpty()) {
                phase = (phase + p) % (cells.size() * q);
            }
        }

        int under() {
            return cells.isEmpty() ? 0 : cells.get(phase / q);
        }
    }

    static final class State {
        final List<int[]> reels = new ArrayList<>();
        final List<Tape> loops = new ArrayList<>();
        int time = 0;
        int refused = 0;

        State copy() {
            State s = new State();
            for (int[] reel : reels) {
                s.reels.add(reel.clone());
            }
            for (Tape loop : loops) {
                s.loops.add(loop.copy());
            }
            s.time = time;
            s.refused = refused;
            return s;
        }

        int sound() {
            int sum = 0;
            for (Tape loop : loops) {
                sum += loop.muted ? 0 : loop.under();
            }
            return sum;
        }

        void tick() {
            for (Tape loop : loops) {
                loop.tick();
            }
            time++;
        }

        int cells() {
            int sum = 0;
            for (Tape loop : loops) {
                sum += loop.cells.size();
            }
            return sum;
        }

        int[] reelAt(int r) {
            if (r < 0 || r >= reels.size()) {
                throw new IndexOutOfBoundsException();
            }
            return reels.get(r);
        }

        Tape loopAt(int l) {
            if (l < 0 || l >= loops.size()) {
                throw new IndexOutOfBoundsException();
            }
            return loops.get(l);
        }

        boolean allAtZero() {
            boolean any = false;
            for (Tape loop : loops) {
                if (!loop.cells.isEmpty()) {
                    any = true;
                    if (loop.phase != 0) {
                        return false;
                    }
                }
            }
            return any;
        }
    }

    State now = new State();
    final State[] slots = new State[2];
    final ArrayDeque<State> past = new ArrayDeque<>();
    final StringBuilder text = new StringBuilder();

    private static void range(int number, int least, int greatest) {
        if (number < least || number > greatest) {
            throw new IllegalArgumentException();
        }
    }

    private static void exists(int number, int count) {
        if (number < 0 || number >= count) {
            throw new IndexOutOfBoundsException();
        }
    }

    private void remember() {
        past.addLast(now.copy());
        if (past.size() > 12) {
            past.removeFirst();
        }
    }

    int append(int c) {
        range(c, 0, 255);
        if (text.length() == 120) {
            throw new IllegalStateException();
        }
        text.append((char) c);
        return text.length();
    }

    int clearText() {
        int n = text.length();
        text.setLength(0);
        return n;
    }

    private static final String R = "[0-2]";
    private static final String L = "[0-3]";
    private static final String C = "(?:[0-5][0-9]|60)";
    private static final String N = "(?:0[1-9]|[1-5][0-9]|60)";
    private static final String COMMAND = "(?:r(?:0[2-9]|[1-5][0-9]|60)|p" + R + C + C + "[0-9]|l|c" + L + R + C + C
        + "|v" + L + "[1-9][1-9]|m" + L + "[01]|t(?!000)[0-9]{3}|w" + R + N + ")";

    /** Whether a text is the beginning of a studio: whether some ending makes it one. */
    private static boolean begins(String start) {
        String[] endings = {"", "0", "00", "000", "0000", "00000", "000000", "1", "11", "01", "001", "011", "2", "02"};
        for (String ending : endings) {
            if ((start + ending).matches("Z" + COMMAND + "*")) {
                return true;
            }
        }
        return start.isEmpty();
    }

    int errorPosition() {
        String all = text.toString();
        if (all.matches("Z" + COMMAND + "*")) {
            return NONE;
        }
        for (int i = 1; i <= all.length(); i++) {
            if (!begins(all.substring(0, i))) {
                return i - 1;
            }
        }
        return all.length();
    }

    private static int number(String s, int from, int to) {
        return Integer.parseInt(s.substring(from, to));
    }

    int load() {
        if (errorPosition() != NONE) {
            throw new IllegalStateException();
        }
        now = new State();
        int left = 0;
        java.util.regex.Matcher m = java.util.regex.Pattern.compile(COMMAND).matcher(text.substring(1));
        while (m.find()) {
            String s = m.group();
            boolean done;
            switch (s.charAt(0)) {
                case 'r': done = tried(() -> doReel(now, number(s, 1, 3))); break;
                case 'p': done = tried(() -> doPaint(now, number(s, 1, 2), number(s, 2, 4), number(s, 4, 6), number(s, 6, 7))); break;
                case 'l': done = tried(() -> doLoop(now)); break;
                case 'c': done = triedSplice(now, number(s, 1, 2), number(s, 2, 3), number(s, 3, 5), number(s, 5, 7)); break;
                case 'v': done = tried(() -> doSpeed(now, number(s, 1, 2), number(s, 2, 3), number(s, 3, 4))); break;
                case 'm': done = tried(() -> doMute(now, number(s, 1, 2), number(s, 2, 3) == 1)); break;
                case 't': done = tried(() -> doTicks(now, number(s, 1, 4))); break;
                default: done = tried(() -> doRecord(now, number(s, 1, 2), number(s, 2, 4))); break;
            }
            left += done ? 0 : 1;
        }
        now.refused = 0;
        past.clear();
        slots[0] = null;
        slots[1] = null;
        return left;
    }

    private static boolean tried(Runnable r) {
        try {
            r.run();
            return true;
        } catch (IndexOutOfBoundsException | IllegalArgumentException | IllegalStateException e) {
            return false;
        }
    }

    private static boolean triedSplice(State s, int l, int r, int from, int to) {
        try {
            return doSplice(s, l, r, from, to) == 0;
        } catch (IndexOutOfBoundsException e) {
            return false;
        }
    }

    int about(int what) {
        range(what, 0, 7);
        int loops = 0;
        int set = 0;
        for (int l = 0; l < now.loops.size(); l++) {
            loops += now.loops.get(l).cells.isEmpty() ? 0 : 1;
            set += now.loops.get(l).muted ? 1 << l : 0;
        }
        int[] all = {now.reels.size(), now.loops.size(), now.time, now.sound(), loops, set, now.cells(), now.refused};
        return all[what];
    }

    /** Each row of silent cells, or of the others, as {first cell, cell behind the last}. */
    private static List<int[]> rows(int[] reel, boolean silent) {
        List<int[]> all = new ArrayList<>();
        for (int from = 0; from < reel.length; from++) {
            for (int to = from + 1; to <= reel.length; to++) {
                boolean alike = true;
                for (int c = from; c < to; c++) {
                    alike &= (reel[c] == 0) == silent;
                }
                boolean longest = (from == 0 || (reel[from - 1] == 0) != silent)
                    && (to == reel.length || (reel[to] == 0) != silent);
                if (alike && longest) {
                    all.add(new int[] {from, to});
                }
            }
        }
        return all;
    }

    private static boolean quiet(int[] reel, int place) {
        return place == 0 || place == reel.length || reel[place - 1] == 0 && reel[place] == 0;
    }

    int reelOf(int r, int what) {
        int[] reel = now.reelAt(r);
        range(what, 0, 4);
        int sum = 0;
        for (int s : reel) {
            sum += s;
        }
        int longest = 0;
        for (int[] row : rows(reel, true)) {
            longest = Math.max(longest, row[1] - row[0]);
        }
        int[] all = {reel.length, rows(reel, true).size(), rows(reel, false).size(), sum, longest};
        return all[what];
    }

    int sound(int r, int c) {
        exists(c, now.reelAt(r).length);
        return now.reelAt(r)[c];
    }

    int silence(int r, int k, int what) {
        int[] reel = now.reelAt(r);
        exists(k, rows(reel, true).size());
        range(what, 0, 2);
        int[] row = rows(reel, true).get(k);
        int first = NONE;
        for (int place = row[1]; place >= row[0]; place--) {
            first = quiet(reel, place) ? place : first;
        }
        return what == 0 ? row[0] : what == 1 ? row[1] - row[0] : first;
    }

    int piece(int r, int k, int what) {
        int[] reel = now.reelAt(r);
        exists(k, rows(reel, false).size());
        range(what, 0, 2);
        int[] row = rows(reel, false).get(k);
        int greatest = 0;
        for (int c = row[0]; c < row[1]; c++) {
            greatest = Math.max(greatest, reel[c]);
        }
        return what == 0 ? row[0] : what == 1 ? row[1] - row[0] : greatest;
    }

    private static int period(Tape loop) {
        Tape t = loop.copy();
        for (int n = 1; ; n++) {
            t.tick();
            if (t.phase == loop.phase) {
                return n;
            }
        }
    }

    int loopOf(int l, int what) {
        Tape loop = now.loopAt(l);
        range(what, 0, 8);
        boolean empty = loop.cells.isEmpty();
        int[] all = {loop.cells.size(), loop.p, loop.q, loop.phase, empty ? NONE : loop.phase / loop.q, loop.under(),
            loop.muted ? 1 : 0, empty ? NONE : period(loop), loop.pieces.size()};
        return all[what];
    }

    int cell(int l, int c) {
        exists(c, now.loopAt(l).cells.size());
        return now.loopAt(l).cells.get(c);
    }

    private static int doReel(State s, int n) {
        range(n, 2, 60);
        if (s.reels.size() == 3) {
            throw new IllegalStateException();
        }
        s.reels.add(new int[n]);
        return s.reels.size() - 1;
    }

    private static int doPaint(State s, int r, int from, int to, int v) {
        int[] reel = s.reelAt(r);
        exists(from, reel.length);
        exists(to, reel.length);
        range(to, from, reel.length);
        range(v, 0, 9);
        int changed = 0;
        for (int c = from; c <= to; c++) {
            changed += reel[c] == v ? 0 : 1;
            reel[c] = v;
        }
        return changed;
    }

    private static int doLoop(State s) {
        if (s.loops.size() == 4) {
            throw new IllegalStateException();
        }
        s.loops.add(new Tape());
        return s.loops.size() - 1;
    }

    private static int doSplice(State s, int l, int r, int from, int to) {
        Tape loop = s.loopAt(l);
        int[] reel = s.reelAt(r);
        exists(from, reel.length + 1);
        exists(to, reel.length + 1);
        int reason = to <= from ? 1 : !quiet(reel, from) ? 2 : !quiet(reel, to) ? 3
            : loop.cells.size() + to - from > 48 ? 4 : loop.pieces.size() == 6 ? 5 : 0;
        if (reason != 0) {
            s.refused++;
            return reason;
        }
        for (int c = from; c < to; c++) {
            loop.cells.add(reel[c]);
        }
        loop.pieces.add(to - from);
        loop.phase = 0;
        return 0;
    }

    private static int doUnsplice(State s, int l) {
        Tape loop = s.loopAt(l);
        if (loop.cells.isEmpty()) {
            throw new IllegalStateException();
        }
        int last = loop.pieces.remove(loop.pieces.size() - 1);
        for (int i = 0; i < last; i++) {
            loop.cells.remove(loop.cells.size() - 1);
        }
        loop.phase = 0;
        return loop.cells.size();
    }

    private static int doSpeed(State s, int l, int p, int q) {
        Tape loop = s.loopAt(l);
        range(p, 1, 9);
        range(q, 1, 9);
        loop.phase = loop.phase / loop.q * q;
        loop.p = p;
        loop.q = q;
        return loop.phase;
    }

    private static int doMute(State s, int l, boolean on) {
        s.loopAt(l).muted = on;
        return s.sound();
    }

    private static int doTicks(State s, int n) {
        range(n, 1, 999);
        for (int i = 0; i < n; i++) {
            s.tick();
        }
        return s.sound();
    }

    private static int doRecord(State s, int r, int n) {
        int[] reel = s.reelAt(r);
        range(n, 1, reel.length);
        int sum = 0;
        for (int i = 0; i < n; i++) {
            reel[i] = Math.min(9, s.sound());
            sum += reel[i];
            s.tick();
        }
        return sum;
    }

    private interface Action {
        int on(State s);
    }

    private int action(Action a) {
        a.on(now.copy());
        remember();
        return a.on(now);
    }

    int reel(int n) {
        return action(s -> doReel(s, n));
    }

    int paint(int r, int from, int to, int v) {
        return action(s -> doPaint(s, r, from, to, v));
    }

    int loop() {
        return action(Model::doLoop);
    }

    int splice(int l, int r, int from, int to) {
        return action(s -> doSplice(s, l, r, from, to));
    }

    int unsplice(int l) {
        return action(s -> doUnsplice(s, l));
    }

    int speed(int l, int p, int q) {
        return action(s -> doSpeed(s, l, p, q));
    }

    int mute(int l, boolean on) {
        return action(s -> doMute(s, l, on));
    }

    int ticks(int n) {
        return action(s -> doTicks(s, n));
    }

    int record(int r, int n) {
        return action(s -> doRecord(s, r, n));
    }

    int undo() {
        if (past.isEmpty()) {
            throw new IllegalStateException();
        }
        now = past.removeLast();
        return past.size();
    }

    int soundIn(int n) {
        range(n, 0, 1000000);
        State s = now.copy();
        for (int i = 0; i < n; i++) {
            s.tick();
        }
        return s.sound();
    }

    int meet(int l, int l2, int way) {
        Tape a = now.loopAt(l).copy();
        Tape b = now.loopAt(l2).copy();
        range(way, 0, 1);
        if (a.cells.isEmpty() || b.cells.isEmpty()) {
            return NONE;
        }
        for (int t = 0; t <= period(a) * period(b); t++) {
            if (a.phase == 0 && b.phase == 0) {
                return t;
            }
            a.tick();
            b.tick();
        }
        return NONE;
    }

    int meetAll() {
        if (about(4) == 0) {
            return NONE;
        }
        State s = now.copy();
        for (int t = 0; t <= 1000000; t++) {
            if (s.allAtZero()) {
                return t;
            }
            s.tick();
        }
        return NONE;
    }

    int loudest(int n, int what) {
        range(n, 1, 2000);
        range(what, 0, 1);
        State s = now.copy();
        int greatest = -1;
        int when = -1;
        for (int t = 0; t <= n; t++) {
            if (s.sound() > greatest) {
                greatest = s.sound();
                when = t;
            }
            s.tick();
        }
        return what == 0 ? greatest : when;
    }

    int turnedBy(int l, int l2) {
        List<Integer> a = now.loopAt(l).cells;
        List<Integer> b = now.loopAt(l2).cells;
        for (int k = 0; k < b.size() && a.size() == b.size(); k++) {
            List<Integer> turned = new ArrayList<>(b.subList(k, b.size()));
            turned.addAll(b.subList(0, k));
            if (turned.equals(a)) {
                return k;
            }
        }
        return NONE;
    }

    int runScript(int n, long script) {
        range(n, 1, 2);
        String digits = String.valueOf(script);
        if (script < 0 || digits.length() > 7 * n) {
            throw new IllegalArgumentException();
        }
        String all = "0".repeat(7 * n - digits.length()) + digits;
        State s = now.copy();
        for (int i = 0; i < n; i++) {
            if (!obeys(s, all.substring(7 * i, 7 * i + 7))) {
                return i;
            }
        }
        return NONE;
    }

    private static boolean obeys(State s, String g) {
        int a = number(g, 1, 2);
        int b = number(g, 2, 3);
        int last2 = number(g, 5, 7);
        int last3 = number(g, 4, 7);
        if (g.matches("1000...")) {
            return tried(() -> doTicks(s, last3));
        }
        if (g.matches("2......")) {
            return triedSplice(s, a, b, number(g, 3, 5), last2);
        }
        if (g.matches("3...000")) {
            return tried(() -> doSpeed(s, a, b, number(g, 3, 4)));
        }
        if (g.matches("4.0000[01]")) {
            return tried(() -> doMute(s, a, last2 == 1));
        }
        if (g.matches("5.000..")) {
            return tried(() -> doRecord(s, a, last2));
        }
        if (g.matches("60000..")) {
            return s.sound() >= last2;
        }
        if (g.matches("7.00...")) {
            return a < s.loops.size() && s.loops.get(a).phase == last3;
        }
        if (g.matches("8..0000")) {
            int loops = s.loops.size();
            return a < loops && b < loops && !s.loops.get(a).cells.isEmpty() && !s.loops.get(b).cells.isEmpty()
                && s.loops.get(a).phase == 0 && s.loops.get(b).phase == 0;
        }
        if (g.matches("9.00...")) {
            int c = number(g, 4, 6);
            return a < s.reels.size() && c < s.reels.get(a).length && s.reels.get(a)[c] == number(g, 6, 7);
        }
        return false;
    }

    int simulate(long seed, int m) {
        range(m, 1, 60);
        State s = now.copy();
        long x = seed;
        for (int i = 0; i < m; i++) {
            x = x * 6364136223846793005L + 1442695040888963407L;
            int r = (int) (x >>> 33);
            tried(() -> turn(s, r % 16, r / 16));
        }
        return 1000 * s.cells() + s.sound();
    }

    private static void turn(State s, int kind, int q) {
        if (kind == 0) {
            doReel(s, 2 + q % 59);
        } else if (kind == 1) {
            doLoop(s);
        } else if (kind <= 4) {
            doPaint(s, q % 3, q / 4 % 60, q / 4 % 60 + q / 256 % 8, q / 2048 % 10);
        } else if (kind <= 8) {
            doSplice(s, q % 4, q / 4 % 3, q / 16 % 61, q / 16 % 61 + 1 + q / 1024 % 20);
        } else if (kind == 9) {
            doSpeed(s, q % 4, 1 + q / 4 % 9, 1 + q / 64 % 9);
        } else if (kind == 10 && q / 8 % 2 == 0) {
            doMute(s, q % 4, q / 4 % 2 == 1);
        } else if (kind == 10) {
            doUnsplice(s, q % 4);
        } else if (kind == 11) {
            doRecord(s, q % 3, 1 + q / 4 % 40);
        } else {
            doTicks(s, 1 + q % 50);
        }
    }

    int save(int slot) {
        exists(slot, 2);
        slots[slot] = now.copy();
        return now.time;
    }

    int restore(int slot) {
        exists(slot, 2);
        if (slots[slot] == null) {
            throw new IllegalStateException();
        }
        now = slots[slot].copy();
        past.clear();
        return now.time;
    }
}
