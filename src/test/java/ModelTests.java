import java.util.Random;

/** Long runs of calls, wrong ones among them, on the class and on the model: every answer is the same. */
public final class ModelTests {
    private static final int RUNS = 2000;
    private static final int CALLS = 512;
    /** So many calls ask for a whole state, at most. */
    private static final int STATE_CALLS = 425;
    private static final int[] ODD = {-1, -2, Integer.MIN_VALUE, Integer.MAX_VALUE, 61, 100, 1000};

    private final Random random;
    private final SplicedLoops x = new SplicedLoops();
    private final Model model = new Model();
    private final int run;
    private String waiting = "";

    private ModelTests(int run) {
        this.run = run;
        random = new Random(run);
    }

    /** Mostly a number from least to greatest, seldom one just outside or an odd one. */
    private int any(int least, int greatest) {
        int kind = random.nextInt(40);
        if (kind == 0) {
            return least - 1;
        }
        if (kind == 1) {
            return greatest + 1;
        }
        if (kind == 2) {
            return ODD[random.nextInt(ODD.length)];
        }
        if (kind == 3) {
            return least;
        }
        if (kind == 4) {
            return greatest;
        }
        return least + random.nextInt(greatest - least + 1);
    }

    private int existing(int count) {
        return any(0, Math.max(0, count - 1));
    }

    private int someReel() {
        return existing(model.now.reels.size());
    }

    private int someLoop() {
        return existing(model.now.loops.size());
    }

    private int cellsOf(int r) {
        return r >= 0 && r < model.now.reels.size() ? model.now.reels.get(r).length : 10;
    }

    /** A place of a reel, mostly one where it is quiet. */
    private int somePlace(int r) {
        int cells = cellsOf(r);
        int place = any(0, cells);
        for (int i = 0; i < 8 && r >= 0 && r < model.now.reels.size() && place > 0 && place < cells; i++) {
            int[] reel = model.now.reels.get(r);
            if (reel[place - 1] == 0 && reel[place] == 0) {
                return place;
            }
            place = random.nextInt(cells + 1);
        }
        return place;
    }

    private void same(String call, java.util.function.Supplier<Integer> one, java.util.function.Supplier<Integer> two) {
        Due.due("run " + run + ": " + call, Due.answer(one), Due.answer(two));
    }

    /** Each second run is short, so that its state can be asked for within the calls that an object has. */
    private void go() {
        boolean brief = run % 2 == 0;
        int calls = brief ? CALLS - STATE_CALLS : CALLS;
        for (int i = 0; i < calls; i++) {
            if (!waiting.isEmpty()) {
                int c = waiting.charAt(0);
                waiting = waiting.substring(1);
                same("append(" + c + ")", () -> x.append(c), () -> model.append(c));
            } else if (i < 12 && run % 5 != 0) {
                begin(i);
            } else {
                call();
            }
        }
        if (brief) {
            Due.due("run " + run + ": the state at the end", Due.stateOf(x), stateOfModel());
        }
    }

    private String stateOfModel() {
        StringBuilder all = new StringBuilder();
        for (int what = 0; what < 8; what++) {
            all.append(model.about(what)).append(' ');
        }
        for (int[] reel : model.now.reels) {
            all.append("| reel");
            for (int sound : reel) {
                all.append(' ').append(sound);
            }
        }
        for (int l = 0; l < model.now.loops.size(); l++) {
            all.append("| loop");
            for (int what = 0; what < 9; what++) {
                all.append(' ').append(model.loopOf(l, what));
            }
            all.append(':');
            for (int sound : model.now.loops.get(l).cells) {
                all.append(' ').append(sound);
            }
        }
        return all.toString();
    }

    private void begin(int i) {
        if (i % 4 == 0) {
            int n = 2 + random.nextInt(59);
            same("reel(" + n + ")", () -> x.reel(n), () -> model.reel(n));
        } else if (i % 4 == 1) {
            same("loop()", x::loop, model::loop);
        } else {
            paint();
        }
    }

    private void call() {
        int kind = random.nextInt(100);
        if (kind < 46) {
            act(random.nextInt(46));
        } else if (kind < 72) {
            ask(random.nextInt(26));
        } else if (kind < 93) {
            foresee(random.nextInt(21));
        } else if (kind < 97) {
            keep(random.nextInt(8));
        } else {
            text(random.nextInt(8));
        }
    }

    private void paint() {
        int r = someReel();
        int from = existing(cellsOf(r));
        int to = random.nextInt(12) == 0 ? existing(cellsOf(r)) : Math.min(from + random.nextInt(5), cellsOf(r) - 1);
        int v = random.nextInt(2) == 0 ? 0 : any(0, 9);
        same("paint(" + r + ", " + from + ", " + to + ", " + v + ")", () -> x.paint(r, from, to, v), () -> model.paint(r, from, to, v));
    }

    private void splice() {
        int l = someLoop();
        int r = someReel();
        int one = somePlace(r);
        int two = somePlace(r);
        int from = random.nextInt(10) == 0 ? Math.max(one, two) : Math.min(one, two);
        int to = from == one ? two : one;
        same("splice(" + l + ", " + r + ", " + from + ", " + to + ")", () -> x.splice(l, r, from, to), () -> model.splice(l, r, from, to));
    }

    private void act(int kind) {
        int l = someLoop();
        int r = someReel();
        if (kind < 2) {
            int n = any(2, 60);
            same("reel(" + n + ")", () -> x.reel(n), () -> model.reel(n));
        } else if (kind < 4) {
            same("loop()", x::loop, model::loop);
        } else if (kind < 10) {
            paint();
        } else if (kind < 22) {
            splice();
        } else if (kind < 24) {
            same("unsplice(" + l + ")", () -> x.unsplice(l), () -> model.unsplice(l));
        } else if (kind < 29) {
            int p = any(1, 9);
            int q = any(1, 9);
            same("speed(" + l + ", " + p + ", " + q + ")", () -> x.speed(l, p, q), () -> model.speed(l, p, q));
        } else if (kind < 32) {
            boolean on = random.nextBoolean();
            same("mute(" + l + ", " + on + ")", () -> x.mute(l, on), () -> model.mute(l, on));
        } else if (kind < 38) {
            int n = random.nextBoolean() ? any(1, 999) : any(1, 9);
            same("ticks(" + n + ")", () -> x.ticks(n), () -> model.ticks(n));
        } else if (kind < 41) {
            int n = any(1, cellsOf(r));
            same("record(" + r + ", " + n + ")", () -> x.record(r, n), () -> model.record(r, n));
        } else {
            same("undo()", x::undo, model::undo);
        }
    }

    private void ask(int kind) {
        int l = someLoop();
        int r = someReel();
        int k = any(0, 4);
        if (kind < 4) {
            int what = any(0, 7);
            same("about(" + what + ")", () -> x.about(what), () -> model.about(what));
        } else if (kind < 8) {
            int what = any(0, 4);
            same("reelOf(" + r + ", " + what + ")", () -> x.reelOf(r, what), () -> model.reelOf(r, what));
        } else if (kind < 11) {
            int c = existing(cellsOf(r));
            same("sound(" + r + ", " + c + ")", () -> x.sound(r, c), () -> model.sound(r, c));
        } else if (kind < 15) {
            int what = any(0, 2);
            same("silence(" + r + ", " + k + ", " + what + ")", () -> x.silence(r, k, what), () -> model.silence(r, k, what));
        } else if (kind < 18) {
            int what = any(0, 2);
            same("piece(" + r + ", " + k + ", " + what + ")", () -> x.piece(r, k, what), () -> model.piece(r, k, what));
        } else if (kind < 23) {
            int what = any(0, 8);
            same("loopOf(" + l + ", " + what + ")", () -> x.loopOf(l, what), () -> model.loopOf(l, what));
        } else {
            int c = any(0, 20);
            same("cell(" + l + ", " + c + ")", () -> x.cell(l, c), () -> model.cell(l, c));
        }
    }

    private void foresee(int kind) {
        int l = someLoop();
        int l2 = someLoop();
        if (kind < 3) {
            int n = random.nextInt(100) == 0 ? any(0, 1000000) : any(0, 3000);
            same("soundIn(" + n + ")", () -> x.soundIn(n), () -> model.soundIn(n));
        } else if (kind < 9) {
            int way = any(0, 1);
            same("meet(" + l + ", " + l2 + ", " + way + ")", () -> x.meet(l, l2, way), () -> model.meet(l, l2, way));
        } else if (kind == 9) {
            if (random.nextInt(4) == 0) {
                same("meetAll()", x::meetAll, model::meetAll);
            }
        } else if (kind < 12) {
            int n = any(1, 2000);
            int what = any(0, 1);
            same("loudest(" + n + ", " + what + ")", () -> x.loudest(n, what), () -> model.loudest(n, what));
        } else if (kind < 14) {
            same("turnedBy(" + l + ", " + l2 + ")", () -> x.turnedBy(l, l2), () -> model.turnedBy(l, l2));
        } else if (kind < 18) {
            script();
        } else {
            long seed = random.nextLong();
            int m = any(1, 60);
            same("simulate(" + seed + ", " + m + ")", () -> x.simulate(seed, m), () -> model.simulate(seed, m));
        }
    }

    private long group() {
        int l = random.nextInt(4);
        int r = random.nextInt(3);
        long wild = random.nextInt(12) == 0 ? (long) Math.pow(10, random.nextInt(7)) : 0;
        switch (random.nextInt(10)) {
            case 0: return wild + 1000000 + random.nextInt(1000);
            case 1: case 2: return wild + 2000000 + l * 100000 + r * 10000 + Math.floorMod(somePlace(r), 100) * 100
                + Math.floorMod(somePlace(r), 100);
            case 3: return wild + 3000000 + l * 100000 + random.nextInt(100) * 1000;
            case 4: return wild + 4000000 + l * 100000 + random.nextInt(3);
            case 5: return wild + 5000000 + r * 100000 + random.nextInt(61);
            case 6: return wild + 6000000 + random.nextInt(30);
            case 7: return wild + 7000000 + l * 100000 + (l < model.now.loops.size() && random.nextBoolean()
                ? model.now.loops.get(l).phase : random.nextInt(4));
            case 8: return wild + 8000000 + l * 100000 + random.nextInt(4) * 10000;
            default: return wild + 9000000 + r * 100000 + random.nextInt(61) * 10 + (random.nextBoolean() ? 0 : random.nextInt(10));
        }
    }

    private void script() {
        int n = any(1, 2);
        long script = n == 1 ? group() : group() * 10000000 + group();
        long told = random.nextInt(60) == 0 ? -script : random.nextInt(60) == 0 ? script * 100 : script;
        same("runScript(" + n + ", " + told + ")", () -> x.runScript(n, told), () -> model.runScript(n, told));
    }

    private void keep(int kind) {
        int slot = any(0, 1);
        if (kind < 5) {
            same("save(" + slot + ")", () -> x.save(slot), () -> model.save(slot));
        } else {
            same("restore(" + slot + ")", () -> x.restore(slot), () -> model.restore(slot));
        }
    }

    private void text(int kind) {
        if (kind < 2) {
            same("clearText()", x::clearText, model::clearText);
            waiting = someText();
        } else if (kind == 2) {
            same("load()", x::load, model::load);
        } else if (kind < 5) {
            int c = any(0, 255);
            same("append(" + c + ")", () -> x.append(c), () -> model.append(c));
        } else {
            same("errorPosition()", x::errorPosition, model::errorPosition);
        }
    }

    private String two(int least, int greatest) {
        int number = least + random.nextInt(greatest - least + 1);
        return "" + number / 10 + number % 10;
    }

    /** Mostly a studio, sometimes one with a wrong, a missing or an odd character. */
    private String someText() {
        StringBuilder all = new StringBuilder("Zr" + two(2, 60) + "l");
        int commands = random.nextInt(18);
        for (int i = 0; i < commands; i++) {
            int l = random.nextInt(4);
            int r = random.nextInt(3);
            switch (random.nextInt(8)) {
                case 0: all.append('r').append(two(2, 60)); break;
                case 1: all.append('p').append(r).append(two(0, 30)).append(two(0, 60)).append(random.nextInt(10)); break;
                case 2: all.append('l'); break;
                case 3: all.append('c').append(l).append(r).append(two(0, 10)).append(two(0, 60)); break;
                case 4: all.append('v').append(l).append(1 + random.nextInt(9)).append(1 + random.nextInt(9)); break;
                case 5: all.append('m').append(l).append(random.nextInt(2)); break;
                case 6: all.append('t').append(random.nextInt(10)).append(two(1, 99)); break;
                default: all.append('w').append(r).append(two(1, 60)); break;
            }
        }
        int kind = random.nextInt(4);
        int at = random.nextInt(all.length());
        if (kind == 0) {
            all.setLength(at);
        } else if (kind == 1) {
            String signs = "0123456789 Zrplcvmtwx";
            all.setCharAt(at, signs.charAt(random.nextInt(signs.length())));
        }
        return all.toString();
    }

    public static void main(String[] args) {
        for (int run = 1; run <= RUNS; run++) {
            new ModelTests(run).go();
        }
        Due.close("ModelTests");
    }
}
