import java.util.function.Consumer;

/** The edges that the section "Terms" names for reels, loops, actions and exceptions, each in a test of its own. */
public final class TermsEdgeTests {
    private static void test(String title, Runnable body) {
        Due.test(title, body);
    }

    private static void due(String call, Object got, Object want) {
        Due.due(call, got, want);
    }

    private static void whatItIs() {
        test("What it is: the 512th call of an object is answered as the first one", () -> {
            SplicedLoops x = Studios.fresh();
            for (int i = 0; i < 511; i++) {
                x.ticks(999);
            }
            due("about(2) as the 512th call", x.about(2), 511 * 999);
            SplicedLoops y = Studios.loopsOf("12345");
            for (int i = 0; i < 504; i++) {
                due("soundIn(" + i + ")", y.soundIn(i), i % 5 + 1);
            }
        });
    }

    // ---- REELS

    private static void reels() {
        test("REELS: there are none at first, and at most 3, numbered from 0", () -> {
            SplicedLoops x = Studios.fresh();
            Due.fails("reelOf(0, 0) without a reel", Due.INDEX, () -> x.reelOf(0, 0));
            for (int r = 0; r < 3; r++) {
                due("reel(5)", x.reel(5), r);
                due("the reels", x.about(0), r + 1);
                due("the last one is there", x.reelOf(r, 0), 5);
                int behind = r + 1;
                Due.fails("the one behind it", Due.INDEX, () -> x.reelOf(behind, 0));
            }
            Due.fails("a fourth reel", Due.STATE, () -> x.reel(5));
            due("the reels behind it", x.about(0), 3);
        });
        test("REELS: a reel has 2 to 60 cells", () -> {
            for (int n : new int[] {2, 3, 59, 60}) {
                SplicedLoops x = Studios.fresh();
                due("reel(" + n + ")", x.reel(n), 0);
                due("its cells", x.reelOf(0, 0), n);
            }
            for (int n : new int[] {1, 0, -1, 61, 62, Integer.MIN_VALUE, Integer.MAX_VALUE}) {
                Due.fails("reel(" + n + ")", Due.ARGUMENT, () -> Studios.fresh().reel(n));
            }
        });
        test("REELS: its cells are numbered from 0", () -> {
            for (int n : new int[] {2, 60}) {
                SplicedLoops x = Studios.fresh();
                x.reel(n);
                due("paint of the first cell", x.paint(0, 0, 0, 7), 1);
                due("paint of the last cell", x.paint(0, n - 1, n - 1, 8), 1);
                due("the first cell", x.sound(0, 0), 7);
                due("the last cell", x.sound(0, n - 1), 8);
                Due.fails("the cell ahead of the first one", Due.INDEX, () -> x.sound(0, -1));
                Due.fails("the cell behind the last one", Due.INDEX, () -> x.sound(0, n));
            }
        });
        test("REELS: a sound is 0 to 9", () -> {
            SplicedLoops x = Studios.reelsOf("55");
            due("the sound 9", x.paint(0, 0, 0, 9) + " " + x.sound(0, 0), "1 9");
            due("the sound 0", x.paint(0, 1, 1, 0) + " " + x.sound(0, 1), "1 0");
            Due.fails("the sound 10", Due.ARGUMENT, () -> x.paint(0, 0, 0, 10));
            Due.fails("the sound -1", Due.ARGUMENT, () -> x.paint(0, 0, 0, -1));
        });
        test("REELS: each cell is silent at first", () -> {
            SplicedLoops x = Studios.threeReels();
            for (int r = 0; r < 3; r++) {
                for (int c = 0; c < x.reelOf(r, 0); c++) {
                    due("sound(" + r + ", " + c + ")", x.sound(r, c), 0);
                }
            }
        });
    }

    /** The places where a reel with these sounds is quiet, as splices from there and to there tell. */
    private static String quiet(String sounds) {
        int n = sounds.length();
        SplicedLoops x = Studios.reelsOf(sounds);
        x.loop();
        StringBuilder all = new StringBuilder();
        for (int place = 0; place <= n; place++) {
            boolean quiet = place < n ? x.splice(0, 0, place, n) != 2 : x.splice(0, 0, 0, n) != 3;
            if (place > 0 && place < n) {
                due("place " + place + " of " + sounds + " is quiet as to", x.splice(0, 0, 0, place) != 3, quiet);
            }
            all.append(quiet ? place + " " : "");
        }
        return all.toString();
    }

    private static void quietPlaces() {
        test("REELS: it can be cut at the places 0 to n", () -> {
            SplicedLoops x = Studios.reelsOf("00000");
            x.loop();
            for (int place = 0; place <= 5; place++) {
                due("splice from and to the place " + place, x.splice(0, 0, place, place), 1);
            }
            Due.fails("from the place -1", Due.INDEX, () -> x.splice(0, 0, -1, 5));
            Due.fails("from the place 6", Due.INDEX, () -> x.splice(0, 0, 6, 5));
            Due.fails("to the place -1", Due.INDEX, () -> x.splice(0, 0, 0, -1));
            Due.fails("to the place 6", Due.INDEX, () -> x.splice(0, 0, 0, 6));
        });
        test("REELS: it is quiet at 0 and at n, whatever sounds there", () -> {
            due("quiet in 999", quiet("999"), "0 3 ");
            due("quiet in 90", quiet("90"), "0 2 ");
            due("quiet in 09", quiet("09"), "0 2 ");
            due("quiet in 11", quiet("11"), "0 2 ");
        });
        test("REELS: it is quiet between two silent cells", () -> {
            due("quiet in 00", quiet("00"), "0 1 2 ");
            due("quiet in 0000", quiet("0000"), "0 1 2 3 4 ");
            due("quiet in 9009", quiet("9009"), "0 2 4 ");
            due("quiet in 90009", quiet("90009"), "0 2 3 5 ");
            due("quiet in 0099", quiet("0099"), "0 1 4 ");
            due("quiet in 9900", quiet("9900"), "0 3 4 ");
        });
        test("REELS: it is not quiet between a silent cell and one that is not", () -> {
            due("quiet in 909", quiet("909"), "0 3 ");
            due("quiet in 090", quiet("090"), "0 3 ");
            due("quiet in 5005060", quiet("5005060"), "0 2 7 ");
        });
        test("REELS: it is not quiet between two cells that are not silent", () -> {
            due("quiet in 1234", quiet("1234"), "0 4 ");
            due("quiet in 0110", quiet("0110"), "0 4 ");
        });
    }

    /** The silences, or else the pieces, of a reel with these sounds, each as its first cell and its cells. */
    private static String rows(String sounds, boolean silences) {
        SplicedLoops x = Studios.reelsOf(sounds);
        StringBuilder all = new StringBuilder();
        int count = x.reelOf(0, silences ? 1 : 2);
        for (int k = 0; k < count; k++) {
            all.append(silences ? x.silence(0, k, 0) : x.piece(0, k, 0)).append('+');
            all.append(silences ? x.silence(0, k, 1) : x.piece(0, k, 1)).append(' ');
        }
        Due.fails("the one behind the last of " + sounds, Due.INDEX,
            () -> silences ? x.silence(0, count, 0) : x.piece(0, count, 0));
        return all.toString();
    }

    private static void rowsOfCells() {
        test("REELS: a silence is as long as it can be", () -> {
            due("silences of 00", rows("00", true), "0+2 ");
            due("silences of 1", rows("0010", true), "0+2 3+1 ");
            due("silences of 900009", rows("900009", true), "1+4 ");
            due("silences of 0".repeat(60), rows("0".repeat(60), true), "0+60 ");
        });
        test("REELS: a reel can be without a silence", () -> {
            due("silences of 99", rows("99", true), "");
            due("silences of 60 ones", rows("1".repeat(60), true), "");
        });
        test("REELS: a piece is as long as it can be, with unlike sounds too", () -> {
            due("pieces of 99", rows("99", false), "0+2 ");
            due("pieces of 123", rows("123", false), "0+3 ");
            due("pieces of 0129", rows("0129", false), "1+3 ");
            due("pieces of 60 sounds", rows("123456789987654321".repeat(4).substring(0, 60), false), "0+60 ");
        });
        test("REELS: a reel can be without a piece", () -> {
            due("pieces of 00", rows("00", false), "");
            due("pieces of 60 silent cells", rows("0".repeat(60), false), "");
        });
        test("REELS: a silence and a piece can be of one cell, at both ends too", () -> {
            due("silences of 909", rows("909", true), "1+1 ");
            due("pieces of 090", rows("090", false), "1+1 ");
            due("silences of 09", rows("09", true), "0+1 ");
            due("pieces of 09", rows("09", false), "1+1 ");
            due("silences of 90", rows("90", true), "1+1 ");
            due("pieces of 90", rows("90", false), "0+1 ");
        });
        test("REELS: silences and pieces are numbered from 0 by rising cells", () -> {
            due("silences", rows("0012003400", true), "0+2 4+2 8+2 ");
            due("pieces", rows("0012003400", false), "2+2 6+2 ");
            due("pieces", rows("1100220033", false), "0+2 4+2 8+2 ");
            StringBuilder silences = new StringBuilder();
            StringBuilder pieces = new StringBuilder();
            for (int c = 0; c < 60; c += 2) {
                silences.append(c).append("+1 ");
                pieces.append(c + 1).append("+1 ");
            }
            due("the most silences", rows("05".repeat(30), true), silences.toString());
            due("the most pieces", rows("05".repeat(30), false), pieces.toString());
        });
    }

    // ---- LOOPS

    private static void loops() {
        test("LOOPS: there are none at first, and at most 4, numbered from 0", () -> {
            SplicedLoops x = Studios.fresh();
            Due.fails("loopOf(0, 0) without a loop", Due.INDEX, () -> x.loopOf(0, 0));
            for (int l = 0; l < 4; l++) {
                due("loop()", x.loop(), l);
                due("the loops", x.about(1), l + 1);
                due("the last one is there", x.loopOf(l, 0), 0);
                int behind = l + 1;
                Due.fails("the one behind it", Due.INDEX, () -> x.loopOf(behind, 0));
            }
            Due.fails("a fifth loop", Due.STATE, x::loop);
            due("the loops behind it", x.about(1), 4);
        });
        test("LOOPS: a loop is of at most 6 pieces", () -> {
            SplicedLoops x = Studios.silentReel(10);
            for (int i = 1; i <= 6; i++) {
                due("piece " + i, x.splice(0, 0, 0, 1), 0);
                due("its pieces", x.loopOf(0, 8), i);
            }
            due("a seventh piece", x.splice(0, 0, 0, 1), 5);
            due("its pieces", x.loopOf(0, 8), 6);
            x.unsplice(0);
            due("a sixth piece once more", x.splice(0, 0, 0, 2), 0);
            due("a seventh piece once more", x.splice(0, 0, 0, 1), 5);
        });
        test("LOOPS: a loop has at most 48 cells, of one piece", () -> {
            due("48 cells", Studios.silentReel(60).splice(0, 0, 0, 48), 0);
            due("49 cells", Studios.silentReel(60).splice(0, 0, 0, 49), 4);
            due("60 cells", Studios.silentReel(60).splice(0, 0, 0, 60), 4);
        });
        test("LOOPS: a loop has at most 48 cells, all pieces together", () -> {
            SplicedLoops x = Studios.silentReel(60);
            due("47 cells", x.splice(0, 0, 13, 60), 0);
            due("two more", x.splice(0, 0, 0, 2), 4);
            due("one more", x.splice(0, 0, 0, 1), 0);
            due("its cells", x.loopOf(0, 0), 48);
            due("one more again", x.splice(0, 0, 0, 1), 4);
            due("its cells", x.loopOf(0, 0), 48);
        });
        test("LOOPS: six pieces of eight cells are 48", () -> {
            SplicedLoops x = Studios.reelsOf("12345678");
            x.loop();
            for (int i = 0; i < 6; i++) {
                due("piece " + i, x.splice(0, 0, 0, 8), 0);
            }
            for (int c = 0; c < 48; c++) {
                due("cell " + c, x.cell(0, c), c % 8 + 1);
            }
        });
        test("LOOPS: each of four loops can have 48 cells", () -> {
            SplicedLoops x = Studios.silentLoops(48, 48, 48, 48);
            due("all cells", x.about(6), 192);
            due("a cell more", x.splice(3, 0, 0, 1), 4);
        });
        test("LOOPS: a loop has no piece at first", () -> {
            SplicedLoops x = Studios.fourLoops();
            for (int l = 0; l < 4; l++) {
                due("its pieces and cells", x.loopOf(l, 8) + " " + x.loopOf(l, 0), "0 0");
            }
        });
    }

    private static void speeds() {
        test("LOOPS: p and q are 1 to 9", () -> {
            SplicedLoops x = Studios.loopsOf("123");
            for (int[] good : new int[][] {{1, 1}, {9, 9}, {1, 9}, {9, 1}}) {
                x.speed(0, good[0], good[1]);
                due("p and q", x.loopOf(0, 1) + " " + x.loopOf(0, 2), good[0] + " " + good[1]);
            }
            for (int[] bad : new int[][] {{0, 1}, {10, 1}, {1, 0}, {1, 10}, {-1, 1}, {1, -1}}) {
                Due.fails("speed(0, " + bad[0] + ", " + bad[1] + ")", Due.ARGUMENT, () -> x.speed(0, bad[0], bad[1]));
            }
        });
        test("LOOPS: p and q are 1 and 1 at first", () -> {
            SplicedLoops x = Studios.fourLoops();
            due("p and q of an empty loop", x.loopOf(3, 1) + " " + x.loopOf(3, 2), "1 1");
        });
        test("LOOPS: 2 / 4 is not 1 / 2", () -> {
            SplicedLoops x = Studios.loopsOf("123", "123");
            x.speed(0, 2, 4);
            x.speed(1, 1, 2);
            due("p and q", x.loopOf(0, 1) + " " + x.loopOf(0, 2), "2 4");
            x.ticks(1);
            due("the phases behind a tick", x.loopOf(0, 3) + " " + x.loopOf(1, 3), "2 1");
            x.ticks(4);
            due("the phases behind five ticks", x.loopOf(0, 3) + " " + x.loopOf(1, 3), "10 5");
            x.ticks(1);
            due("the phases behind six ticks", x.loopOf(0, 3) + " " + x.loopOf(1, 3), "0 0");
        });
        test("LOOPS: a loop is not muted at first, and its phase is 0", () -> {
            SplicedLoops x = Studios.fourLoops();
            due("the muted loops", x.about(5), 0);
            for (int l = 0; l < 4; l++) {
                due("muted and phase", x.loopOf(l, 6) + " " + x.loopOf(l, 3), "0 0");
            }
        });
    }

    private static void phases() {
        test("LOOPS: the phase is at most len * q - 1, and then 0 again", () -> {
            SplicedLoops x = Studios.silentLoops(48);
            x.speed(0, 1, 9);
            x.ticks(431);
            due("the greatest phase and its cell", x.loopOf(0, 3) + " " + x.loopOf(0, 4), "431 47");
            x.ticks(1);
            due("a tick later", x.loopOf(0, 3) + " " + x.loopOf(0, 4), "0 0");
            x.ticks(864);
            due("two rounds later", x.loopOf(0, 3), 0);
            x.ticks(863);
            due("a tick ahead of two rounds more", x.loopOf(0, 3), 431);
        });
        test("LOOPS: a phase goes round with what is left", () -> {
            SplicedLoops x = Studios.loopsOf("12345");
            x.speed(0, 3, 1);
            StringBuilder all = new StringBuilder();
            for (int i = 0; i < 6; i++) {
                x.ticks(1);
                all.append(x.loopOf(0, 3)).append(' ');
            }
            due("the phases at speed 3", all.toString(), "3 1 4 2 0 3 ");
        });
        test("LOOPS: a phase goes round more than once in a tick", () -> {
            SplicedLoops x = Studios.loopsOf("12");
            x.speed(0, 9, 1);
            due("at speed 9 on 2 cells", x.ticks(1) + " " + x.loopOf(0, 3), "2 1");
            due("and again", x.ticks(1) + " " + x.loopOf(0, 3), "1 0");
            SplicedLoops one = Studios.silentLoops(1);
            one.speed(0, 9, 2);
            one.ticks(1);
            due("at speed 9 / 2 on 1 cell", one.loopOf(0, 3) + " " + one.loopOf(0, 4), "1 0");
            one.speed(0, 9, 1);
            one.ticks(1);
            due("at speed 9 on 1 cell", one.loopOf(0, 3), 0);
        });
        test("LOOPS: the head is at phase / q, rounded down", () -> {
            SplicedLoops x = Studios.loopsOf("57");
            x.speed(0, 1, 3);
            StringBuilder all = new StringBuilder();
            for (int i = 0; i < 7; i++) {
                all.append(x.loopOf(0, 4)).append(x.about(3)).append(' ');
                x.ticks(1);
            }
            due("cells and sounds", all.toString(), "05 05 05 17 17 17 05 ");
        });
        test("LOOPS: an empty loop does not go on", () -> {
            SplicedLoops x = Studios.fourLoops();
            x.speed(0, 9, 9);
            x.ticks(999);
            due("its phase", x.loopOf(0, 3) + " " + x.loopOf(3, 3), "0 0");
        });
        test("LOOPS: a muted loop goes on", () -> {
            SplicedLoops x = Studios.loopsOf("123");
            x.mute(0, true);
            due("the sound", x.ticks(2), 0);
            due("the phase", x.loopOf(0, 3), 2);
            due("the sound, no more muted", x.mute(0, false), 3);
        });
    }

    private static SplicedLoops loudest() {
        SplicedLoops x = Studios.reelsOf("99");
        for (int l = 0; l < 4; l++) {
            x.loop();
            x.splice(l, 0, 0, 2);
        }
        return x;
    }

    private static void sounds() {
        test("LOOPS: the sound of now is at most that of four loops", () -> due("36", loudest().about(3), 36));
        test("LOOPS: a muted loop is not in the sound of now", () -> {
            SplicedLoops x = loudest();
            for (int l = 0; l < 4; l++) {
                due("with " + (3 - l) + " loops", x.mute(l, true), 27 - 9 * l);
            }
            due("all muted", x.about(3) + " " + x.about(5), "0 15");
        });
        test("LOOPS: an empty loop is not in the sound of now", () -> {
            SplicedLoops x = loudest();
            for (int l = 3; l >= 0; l--) {
                x.unsplice(l);
                due("with " + l + " loops", x.about(3), 9 * l);
            }
        });
        test("LOOPS: without loops the sound of now is 0", () -> {
            due("about(3)", Studios.fresh().about(3), 0);
            due("about(3) of empty loops", Studios.fourLoops().about(3), 0);
            due("ticks(1)", Studios.fresh().ticks(1), 0);
        });
        test("LOOPS: the time is 0 at first and counts ticks, also without loops", () -> {
            SplicedLoops x = Studios.fresh();
            due("the time", x.about(2), 0);
            x.ticks(1);
            due("behind a tick", x.about(2), 1);
            x.ticks(999);
            due("behind 1000 ticks", x.about(2), 1000);
            x.reel(60);
            x.record(0, 60);
            due("behind a recording of 60 ticks", x.about(2), 1060);
        });
        test("LOOPS: loops meet at the phase 0 alone, not at the first cell", () -> {
            SplicedLoops x = Studios.loopsOf("12");
            x.speed(0, 1, 3);
            due("at the phase 0", x.meet(0, 0, 0) + " " + x.meetAll() + " " + x.runScript(1, 8000000), "0 0 -1");
            x.ticks(1);
            due("the first cell", x.loopOf(0, 4), 0);
            due("at the phase 1", x.meet(0, 0, 0) + " " + x.meetAll() + " " + x.runScript(1, 8000000), "5 5 0");
        });
    }

    private static int period(int cells, int p, int q) {
        SplicedLoops x = Studios.silentLoops(cells);
        x.speed(0, p, q);
        int now = x.loopOf(0, 7);
        x.ticks(1);
        due("the period stays", x.loopOf(0, 7), now);
        return now;
    }

    private static void periods() {
        test("LOOPS: the period is at least 1", () -> {
            due("1 cell at 1 / 1", period(1, 1, 1), 1);
            due("1 cell at 9 / 9", period(1, 9, 9), 1);
            due("9 cells at 9 / 1", period(9, 9, 1), 1);
            due("3 cells at 9 / 1", period(3, 9, 1), 1);
            due("4 cells at 8 / 1", period(4, 8, 1), 1);
        });
        test("LOOPS: the period is at most 48 * 9", () -> due("48 cells at 1 / 9", period(48, 1, 9), 432));
        test("LOOPS: the period is the least number of ticks", () -> {
            due("48 cells at 2 / 9", period(48, 2, 9), 216);
            due("48 cells at 9 / 9", period(48, 9, 9), 48);
            due("8 cells at 6 / 1", period(8, 6, 1), 4);
            due("7 cells at 6 / 4", period(7, 6, 4), 14);
            due("5 cells at 9 / 2", period(5, 9, 2), 10);
            due("47 cells at 8 / 9", period(47, 8, 9), 423);
        });
        test("LOOPS: the period of an empty loop is NONE", () -> {
            SplicedLoops x = Studios.fourLoops();
            x.speed(2, 3, 5);
            due("loopOf(2, 7)", x.loopOf(2, 7), -1);
            due("loopOf(3, 7)", x.loopOf(3, 7), -1);
        });
    }

    // ---- ACTIONS AND UNDO

    /** The action remembers the state as it is ahead of it, and undo brings that back. */
    private static void isAction(String name, SplicedLoops x, Consumer<SplicedLoops> action) {
        x.save(0);
        x.restore(0);
        String before = Due.stateOf(x);
        action.accept(x);
        due(name + ": left behind undo()", Due.answer(x::undo), "0");
        due(name + ": the state behind undo()", Due.stateOf(x), before);
    }

    private static void actions() {
        test("ACTIONS: reel is one", () -> isAction("reel(60)", Studios.usual(), x -> x.reel(60)));
        test("ACTIONS: paint is one", () -> isAction("paint(1, 0, 8, 9)", Studios.usual(), x -> x.paint(1, 0, 8, 9)));
        test("ACTIONS: loop is one", () -> isAction("loop()", Studios.usual(), SplicedLoops::loop));
        test("ACTIONS: splice is one", () -> isAction("splice(0, 0, 0, 8)", behindTicks(), x -> x.splice(0, 0, 0, 8)));
        test("ACTIONS: unsplice is one", () -> isAction("unsplice(0)", behindTicks(), x -> x.unsplice(0)));
        test("ACTIONS: speed is one", () -> isAction("speed(0, 9, 7)", behindTicks(), x -> x.speed(0, 9, 7)));
        test("ACTIONS: mute is one", () -> isAction("mute(0, true)", behindTicks(), x -> x.mute(0, true)));
        test("ACTIONS: ticks is one", () -> isAction("ticks(999)", behindTicks(), x -> x.ticks(999)));
        test("ACTIONS: record is one", () -> isAction("record(0, 20)", behindTicks(), x -> x.record(0, 20)));
        test("ACTIONS: paint is one also if nothing becomes different", () ->
            isAction("paint(0, 0, 2, 0)", Studios.usual(), x -> x.paint(0, 0, 2, 0)));
        test("ACTIONS: speed is one also if nothing becomes different", () ->
            isAction("speed(0, 1, 1)", Studios.usual(), x -> x.speed(0, 1, 1)));
        test("ACTIONS: mute is one also if nothing becomes different", () ->
            isAction("mute(0, false)", Studios.usual(), x -> x.mute(0, false)));
        test("ACTIONS: a splice that is refused is one", () ->
            isAction("splice(0, 0, 8, 8)", behindTicks(), x -> x.splice(0, 0, 8, 8)));
        test("ACTIONS: the count of refused splices is of the state", () -> {
            SplicedLoops x = Studios.usual();
            x.splice(0, 0, 8, 8);
            x.save(0);
            x.splice(0, 0, 8, 8);
            due("behind two", x.about(7), 2);
            x.undo();
            due("behind undo()", x.about(7), 1);
            x.splice(0, 0, 8, 8);
            x.splice(0, 0, 8, 8);
            x.restore(0);
            due("behind restore()", x.about(7), 1);
        });
        test("ACTIONS: a call that throws an exception is none", () -> {
            SplicedLoops x = Studios.young();
            Due.answer(() -> x.reel(61));
            Due.answer(() -> x.paint(0, 0, 20, 1));
            Due.answer(() -> x.splice(0, 0, 0, 21));
            Due.answer(() -> x.unsplice(2));
            Due.answer(() -> x.speed(0, 0, 1));
            Due.answer(() -> x.mute(3, true));
            Due.answer(() -> x.ticks(0));
            Due.answer(() -> x.record(0, 21));
            due("left behind undo()", x.undo(), 2);
        });
    }

    private static SplicedLoops behindTicks() {
        SplicedLoops x = Studios.usual();
        x.speed(0, 2, 3);
        x.ticks(4);
        return x;
    }

    /** Calls that are no actions: behind them as many states are remembered as ahead of them. */
    private static void noActions() {
        test("ACTIONS: questions are none", () -> Due.same("young() behind questions", () -> {
            SplicedLoops x = Studios.young();
            x.errorPosition();
            x.about(3);
            x.reelOf(0, 0);
            x.sound(0, 0);
            x.silence(0, 0, 0);
            x.piece(0, 0, 0);
            x.loopOf(0, 0);
            x.cell(0, 0);
            x.soundIn(1000000);
            x.meet(0, 1, 0);
            x.meet(0, 1, 1);
            x.meetAll();
            x.loudest(2000, 1);
            x.turnedBy(0, 1);
            x.runScript(2, 10009991000999L);
            x.simulate(1, 60);
            return x;
        }, Studios::young));
        test("ACTIONS: append and clearText are none", () -> {
            SplicedLoops x = Studios.young();
            x.append('Z');
            x.clearText();
            x.append('Z');
            due("left behind undo()", x.undo(), 2);
            due("the text behind it", x.clearText(), 1);
        });
        test("ACTIONS: save is none", () -> {
            SplicedLoops x = Studios.young();
            x.save(0);
            x.save(1);
            due("left behind undo()", x.undo(), 2);
        });
        test("ACTIONS: load is none, and forgets", () -> {
            SplicedLoops x = Studios.young();
            x.clearText();
            Due.write(x, "Zlt009");
            due("load()", x.load(), 0);
            Due.fails("undo()", Due.STATE, x::undo);
            due("the time", x.about(2), 9);
        });
        test("ACTIONS: restore is none, and forgets", () -> {
            SplicedLoops x = Studios.young();
            x.restore(1);
            Due.fails("undo()", Due.STATE, x::undo);
            due("the time", x.about(2), 0);
        });
        test("ACTIONS: undo is none", () -> {
            SplicedLoops x = Studios.fresh();
            x.ticks(1);
            x.ticks(1);
            due("undo()", x.undo() + " " + x.about(2), "1 1");
            due("undo() again goes on backwards", x.undo() + " " + x.about(2), "0 0");
            Due.fails("undo() of nothing", Due.STATE, x::undo);
        });
    }

    /** So many ticks, one an action. */
    private static void act(SplicedLoops x, int actions) {
        for (int i = 0; i < actions; i++) {
            x.ticks(1);
        }
    }

    /** So many states are remembered, each a tick younger than the next one. */
    private static void remembers(SplicedLoops x, int states) {
        int time = x.about(2);
        for (int left = states - 1; left >= 0; left--) {
            due("undo()", Due.answer(x::undo), "" + left);
            time--;
            due("the time behind it", x.about(2), time);
        }
        Due.fails("undo() with none left", Due.STATE, x::undo);
        due("the time behind it", x.about(2), time);
    }

    private static void rememberedStates() {
        for (int actions : new int[] {0, 1, 2, 11, 12}) {
            test("ACTIONS: " + actions + " states are remembered behind " + actions + " actions", () -> {
                SplicedLoops x = Studios.fresh();
                act(x, actions);
                remembers(x, actions);
            });
        }
        for (int actions : new int[] {13, 14, 23, 24, 25, 36, 37, 100}) {
            test("ACTIONS: behind " + actions + " actions the oldest ones are forgotten, 12 are remembered", () -> {
                SplicedLoops x = Studios.fresh();
                act(x, actions);
                remembers(x, 12);
            });
        }
        test("ACTIONS: states undone make room for others", () -> {
            for (int undone = 1; undone <= 12; undone++) {
                for (int more = undone - 1; more <= undone + 1; more++) {
                    SplicedLoops x = Studios.fresh();
                    act(x, 17);
                    for (int i = 0; i < undone; i++) {
                        x.undo();
                    }
                    act(x, more);
                    remembers(x, Math.min(12, 12 - undone + more));
                }
            }
        });
        test("ACTIONS: behind restore() 12 states are remembered again", () -> {
            SplicedLoops x = Studios.fresh();
            x.save(0);
            act(x, 17);
            x.restore(0);
            act(x, 13);
            remembers(x, 12);
        });
        test("ACTIONS: behind load() 12 states are remembered again", () -> {
            SplicedLoops x = Studios.withText("Zt005");
            act(x, 7);
            x.load();
            act(x, 11);
            remembers(x, 11);
            act(x, 13);
            remembers(x, 12);
        });
        test("ACTIONS: a state is remembered whole, the oldest of 12 too", () -> {
            SplicedLoops x = Studios.usual();
            x.speed(0, 2, 3);
            x.mute(1, true);
            x.splice(0, 0, 1, 1);
            x.ticks(5);
            String before = Due.stateOf(x);
            x.reel(60);
            x.paint(0, 0, 19, 8);
            x.paint(1, 0, 8, 9);
            x.loop();
            x.unsplice(0);
            x.splice(1, 2, 0, 9);
            x.splice(2, 2, 0, 5);
            x.splice(2, 2, 3, 1);
            x.speed(0, 7, 8);
            x.mute(1, false);
            x.mute(0, true);
            x.record(2, 60);
            for (int i = 0; i < 12; i++) {
                x.undo();
            }
            due("the state behind 12 times undo()", Due.stateOf(x), before);
        });
        test("ACTIONS: the text is not of the state", () -> {
            SplicedLoops x = Studios.withText("Z");
            x.ticks(1);
            x.append('l');
            x.undo();
            due("load()", x.load() + " " + x.about(1), "0 1");
        });
        test("ACTIONS: the save slots are not of the state", () -> {
            SplicedLoops x = Studios.fresh();
            x.ticks(3);
            x.save(1);
            x.undo();
            due("restore(1)", x.restore(1), 3);
        });
    }

    // ---- EXCEPTIONS

    private static void exceptions() {
        test("EXCEPTIONS: a reel that does not exist", () -> {
            for (int r : new int[] {-1, 2, 3, Integer.MIN_VALUE, Integer.MAX_VALUE}) {
                Due.fails("reelOf", Due.INDEX, () -> Studios.usual().reelOf(r, 0));
                Due.fails("sound", Due.INDEX, () -> Studios.usual().sound(r, 0));
                Due.fails("silence", Due.INDEX, () -> Studios.usual().silence(r, 0, 0));
                Due.fails("piece", Due.INDEX, () -> Studios.usual().piece(r, 0, 0));
                Due.fails("paint", Due.INDEX, () -> Studios.usual().paint(r, 0, 0, 0));
                Due.fails("splice", Due.INDEX, () -> Studios.usual().splice(0, r, 0, 1));
                Due.fails("record", Due.INDEX, () -> Studios.usual().record(r, 1));
            }
        });
        test("EXCEPTIONS: a loop that does not exist", () -> {
            for (int l : new int[] {-1, 3, 4, Integer.MIN_VALUE, Integer.MAX_VALUE}) {
                Due.fails("loopOf", Due.INDEX, () -> Studios.usual().loopOf(l, 0));
                Due.fails("cell", Due.INDEX, () -> Studios.usual().cell(l, 0));
                Due.fails("splice", Due.INDEX, () -> Studios.usual().splice(l, 0, 0, 1));
                Due.fails("unsplice", Due.INDEX, () -> Studios.usual().unsplice(l));
                Due.fails("speed", Due.INDEX, () -> Studios.usual().speed(l, 1, 1));
                Due.fails("mute", Due.INDEX, () -> Studios.usual().mute(l, true));
                Due.fails("meet", Due.INDEX, () -> Studios.usual().meet(l, 0, 0));
                Due.fails("meet as the second one", Due.INDEX, () -> Studios.usual().meet(0, l, 0));
                Due.fails("turnedBy", Due.INDEX, () -> Studios.usual().turnedBy(l, 0));
                Due.fails("turnedBy as the second one", Due.INDEX, () -> Studios.usual().turnedBy(0, l));
            }
        });
        test("EXCEPTIONS: a save slot that is not 0 or 1", () -> {
            for (int slot : new int[] {-1, 2, Integer.MIN_VALUE, Integer.MAX_VALUE}) {
                Due.fails("save", Due.INDEX, () -> Studios.full().save(slot));
                Due.fails("restore", Due.INDEX, () -> Studios.full().restore(slot));
            }
        });
        test("EXCEPTIONS: numbers far out of their ranges", () -> {
            for (int far : new int[] {Integer.MIN_VALUE, Integer.MIN_VALUE + 1, Integer.MAX_VALUE - 1, Integer.MAX_VALUE}) {
                Due.fails("append", Due.ARGUMENT, () -> Studios.usual().append(far));
                Due.fails("about", Due.ARGUMENT, () -> Studios.usual().about(far));
                Due.fails("reelOf", Due.ARGUMENT, () -> Studios.usual().reelOf(0, far));
                Due.fails("sound", Due.INDEX, () -> Studios.usual().sound(0, far));
                Due.fails("silence", Due.INDEX, () -> Studios.usual().silence(0, far, 0));
                Due.fails("silence, what", Due.ARGUMENT, () -> Studios.usual().silence(0, 0, far));
                Due.fails("piece", Due.INDEX, () -> Studios.usual().piece(0, far, 0));
                Due.fails("piece, what", Due.ARGUMENT, () -> Studios.usual().piece(0, 0, far));
                Due.fails("loopOf", Due.ARGUMENT, () -> Studios.usual().loopOf(0, far));
                Due.fails("cell", Due.INDEX, () -> Studios.usual().cell(0, far));
                Due.fails("reel", Due.ARGUMENT, () -> Studios.usual().reel(far));
                Due.fails("paint, from", Due.INDEX, () -> Studios.usual().paint(0, far, 3, 1));
                Due.fails("paint, to", Due.INDEX, () -> Studios.usual().paint(0, 3, far, 1));
                Due.fails("paint, v", Due.ARGUMENT, () -> Studios.usual().paint(0, 3, 3, far));
                Due.fails("splice, from", Due.INDEX, () -> Studios.usual().splice(0, 0, far, 8));
                Due.fails("splice, to", Due.INDEX, () -> Studios.usual().splice(0, 0, 0, far));
                Due.fails("speed, p", Due.ARGUMENT, () -> Studios.usual().speed(0, far, 1));
                Due.fails("speed, q", Due.ARGUMENT, () -> Studios.usual().speed(0, 1, far));
                Due.fails("ticks", Due.ARGUMENT, () -> Studios.usual().ticks(far));
                Due.fails("record", Due.ARGUMENT, () -> Studios.usual().record(0, far));
                Due.fails("soundIn", Due.ARGUMENT, () -> Studios.usual().soundIn(far));
                Due.fails("meet", Due.ARGUMENT, () -> Studios.usual().meet(0, 1, far));
                Due.fails("loudest", Due.ARGUMENT, () -> Studios.usual().loudest(far, 0));
                Due.fails("loudest, what", Due.ARGUMENT, () -> Studios.usual().loudest(9, far));
                Due.fails("runScript", Due.ARGUMENT, () -> Studios.usual().runScript(far, 1000001));
                Due.fails("simulate", Due.ARGUMENT, () -> Studios.usual().simulate(1, far));
            }
            Due.fails("runScript, script", Due.ARGUMENT, () -> Studios.usual().runScript(2, Long.MAX_VALUE));
            Due.fails("runScript, script", Due.ARGUMENT, () -> Studios.usual().runScript(2, Long.MIN_VALUE));
        });
    }

    public static void main(String[] args) {
        whatItIs();
        reels();
        quietPlaces();
        rowsOfCells();
        loops();
        speeds();
        phases();
        sounds();
        periods();
        actions();
        noActions();
        rememberedStates();
        exceptions();
        Due.close("TermsEdgeTests");
    }
}
