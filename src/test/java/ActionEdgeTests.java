/** The edges of the promises 13 to 22, the actions, each in a test of its own. */
public final class ActionEdgeTests {
    private static void test(String title, Runnable body) {
        Due.test(title, body);
    }

    private static void due(String call, Object got, Object want) {
        Due.due(call, got, want);
    }

    private static void loopOf(SplicedLoops x, int l, String want) {
        StringBuilder all = new StringBuilder();
        for (int what = 0; what < 9; what++) {
            all.append(what == 0 ? "" : " ").append(x.loopOf(l, what));
        }
        due("loopOf(" + l + ", 0 to 8)", all.toString(), want);
    }

    private static String cells(SplicedLoops x, int l) {
        StringBuilder all = new StringBuilder();
        for (int c = 0; c < x.loopOf(l, 0); c++) {
            all.append(x.cell(l, c));
        }
        return all.toString();
    }

    private static String sounds(SplicedLoops x, int r) {
        StringBuilder all = new StringBuilder();
        for (int c = 0; c < x.reelOf(r, 0); c++) {
            all.append(x.sound(r, c));
        }
        return all.toString();
    }

    private static void promise13() {
        test("Promise 13: n is 2 to 60", () -> {
            for (int n : new int[] {2, 3, 59, 60}) {
                SplicedLoops x = Studios.fresh();
                due("reel(" + n + ")", x.reel(n), 0);
                due("sounds", sounds(x, 0), "0".repeat(n));
            }
        });
        test("Promise 13: n out of its range is refused", () -> {
            for (int n : new int[] {-1, 0, 1, 61}) {
                Due.refuses("reel(" + n + ")", Due.ARGUMENT, Studios::busy, x -> x.reel(n));
                Due.refuses("reel(" + n + ")", Due.ARGUMENT, Studios::young, x -> x.reel(n));
            }
        });
        test("Promise 13: its number is 0 to 2", () -> {
            SplicedLoops x = Studios.fresh();
            due("reel(2)", x.reel(2), 0);
            due("reel(60)", x.reel(60), 1);
            due("reel(3)", x.reel(3), 2);
        });
        test("Promise 13: a fourth reel is refused", () -> {
            Due.refuses("reel(2)", Due.STATE, Studios::threeReels, x -> x.reel(2));
            Due.refuses("reel(60)", Due.STATE, Studios::full, x -> x.reel(60));
        });
        test("Promise 13: n is named first, of three reels too", () -> {
            Due.refuses("reel(1)", Due.ARGUMENT, Studios::threeReels, x -> x.reel(1));
            Due.refuses("reel(61)", Due.ARGUMENT, Studios::full, x -> x.reel(61));
        });
        test("Promise 13: all silent, also where a reel was undone", () -> {
            SplicedLoops x = Studios.threeReels();
            x.paint(2, 0, 29, 9);
            x.undo();
            x.undo();
            due("reel(60)", x.reel(60), 2);
            due("sounds", sounds(x, 2), "0".repeat(60));
        });
        test("Promise 13: all silent, also where a reel was ahead of restore()", () -> {
            SplicedLoops x = Studios.fresh();
            x.save(1);
            x.reel(40);
            x.paint(0, 0, 39, 9);
            x.restore(1);
            due("reel(60)", x.reel(60), 0);
            due("sounds", sounds(x, 0), "0".repeat(60));
        });
    }

    private static void promise14() {
        test("Promise 14: a reel that does not exist", () -> {
            Due.refuses("paint(-1, 0, 0, 1)", Due.INDEX, Studios::busy, x -> x.paint(-1, 0, 0, 1));
            Due.refuses("paint(2, 0, 0, 1)", Due.INDEX, Studios::busy, x -> x.paint(2, 0, 0, 1));
            Due.refuses("paint(3, 0, 0, 1)", Due.INDEX, Studios::full, x -> x.paint(3, 0, 0, 1));
        });
        test("Promise 14: a cell that does not exist", () -> {
            Due.refuses("paint(1, -1, 0, 1)", Due.INDEX, Studios::busy, x -> x.paint(1, -1, 0, 1));
            Due.refuses("paint(1, 9, 9, 1)", Due.INDEX, Studios::busy, x -> x.paint(1, 9, 9, 1));
            Due.refuses("paint(1, 0, 9, 1)", Due.INDEX, Studios::busy, x -> x.paint(1, 0, 9, 1));
            Due.refuses("paint(2, 0, 60, 1)", Due.INDEX, Studios::full, x -> x.paint(2, 0, 60, 1));
        });
        test("Promise 14: to less than from is refused", () -> {
            Due.refuses("paint(0, 1, 0, 1)", Due.ARGUMENT, Studios::busy, x -> x.paint(0, 1, 0, 1));
            Due.refuses("paint(0, 19, 0, 1)", Due.ARGUMENT, Studios::young, x -> x.paint(0, 19, 0, 1));
        });
        test("Promise 14: v out of its range is refused", () -> {
            Due.refuses("paint(0, 0, 0, -1)", Due.ARGUMENT, Studios::busy, x -> x.paint(0, 0, 0, -1));
            Due.refuses("paint(0, 0, 0, 10)", Due.ARGUMENT, Studios::busy, x -> x.paint(0, 0, 0, 10));
            Due.refuses("paint(2, 0, 59, 10)", Due.ARGUMENT, Studios::full, x -> x.paint(2, 0, 59, 10));
        });
        test("Promise 14: the reel and the cells are named first", () -> {
            Due.refuses("paint(2, 1, 0, 10)", Due.INDEX, Studios::busy, x -> x.paint(2, 1, 0, 10));
            Due.refuses("paint(0, 20, 0, 1)", Due.INDEX, Studios::busy, x -> x.paint(0, 20, 0, 1));
            Due.refuses("paint(0, 0, -1, 1)", Due.INDEX, Studios::busy, x -> x.paint(0, 0, -1, 1));
            Due.refuses("paint(0, 0, 20, 10)", Due.INDEX, Studios::busy, x -> x.paint(0, 0, 20, 10));
        });
        test("Promise 14: one cell, the first or the last one", () -> {
            SplicedLoops x = Studios.reelsOf("00000");
            due("paint(0, 0, 0, 9)", x.paint(0, 0, 0, 9), 1);
            due("sounds", sounds(x, 0), "90000");
            due("paint(0, 4, 4, 1)", x.paint(0, 4, 4, 1), 1);
            due("sounds", sounds(x, 0), "90001");
        });
        test("Promise 14: all cells, with the sounds 9 and 0", () -> {
            SplicedLoops x = Studios.fresh();
            x.reel(60);
            due("paint(0, 0, 59, 9)", x.paint(0, 0, 59, 9), 60);
            due("sounds", sounds(x, 0), "9".repeat(60));
            due("paint(0, 0, 59, 0)", x.paint(0, 0, 59, 0), 60);
            due("sounds", sounds(x, 0), "0".repeat(60));
        });
        test("Promise 14: no cell has another sound then", () -> {
            SplicedLoops x = Studios.reelsOf("12345");
            due("paint(0, 2, 2, 3)", x.paint(0, 2, 2, 3), 0);
            due("paint(0, 0, 4, 3)", x.paint(0, 0, 4, 3), 4);
            due("paint(0, 0, 4, 3) again", x.paint(0, 0, 4, 3), 0);
        });
        test("Promise 14: loops stay as they are", () -> {
            SplicedLoops x = Studios.loopsOf("12345");
            x.ticks(3);
            x.paint(0, 0, 4, 9);
            loopOf(x, 0, "5 1 1 3 3 4 0 5 1");
            due("cells", cells(x, 0), "12345");
        });
    }

    private static void promise15() {
        test("Promise 15: its number is 0 to 3", () -> {
            SplicedLoops x = Studios.fresh();
            for (int l = 0; l < 4; l++) {
                due("loop()", x.loop(), l);
            }
        });
        test("Promise 15: a fifth loop is refused", () -> {
            Due.refuses("loop()", Due.STATE, Studios::fourLoops, SplicedLoops::loop);
            Due.refuses("loop()", Due.STATE, Studios::full, SplicedLoops::loop);
        });
        test("Promise 15: it is empty, also where a loop was undone", () -> {
            SplicedLoops x = Studios.silentLoops(48);
            x.loop();
            x.speed(1, 9, 8);
            x.splice(1, 0, 0, 9);
            x.mute(1, true);
            x.ticks(1);
            for (int i = 0; i < 5; i++) {
                x.undo();
            }
            due("loop()", x.loop(), 1);
            loopOf(x, 1, "0 1 1 0 -1 0 0 -1 0");
        });
        test("Promise 15: it is empty, also where a loop was ahead of restore()", () -> {
            SplicedLoops x = Studios.silentReel(48);
            x.save(0);
            for (int l = 1; l < 4; l++) {
                x.loop();
                x.speed(l, 9, 8);
                x.splice(l, 0, 0, 9);
                x.mute(l, true);
                x.ticks(1);
            }
            x.restore(0);
            for (int l = 1; l < 4; l++) {
                due("loop()", x.loop(), l);
                loopOf(x, l, "0 1 1 0 -1 0 0 -1 0");
            }
        });
    }

    private static SplicedLoops loud() {
        SplicedLoops x = Studios.fresh();
        x.reel(60);
        x.paint(0, 0, 59, 9);
        x.loop();
        return x;
    }

    private static void splice(SplicedLoops x, int from, int to, int want) {
        due("splice(0, 0, " + from + ", " + to + ")", x.splice(0, 0, from, to), want);
    }

    private static void promise16() {
        test("Promise 16: a loop that does not exist", () -> {
            Due.refuses("splice(-1, 0, 0, 8)", Due.INDEX, Studios::busy, x -> x.splice(-1, 0, 0, 8));
            Due.refuses("splice(3, 0, 0, 8)", Due.INDEX, Studios::busy, x -> x.splice(3, 0, 0, 8));
            Due.refuses("splice(4, 0, 0, 8)", Due.INDEX, Studios::full, x -> x.splice(4, 0, 0, 8));
        });
        test("Promise 16: a reel that does not exist", () -> {
            Due.refuses("splice(0, -1, 0, 8)", Due.INDEX, Studios::busy, x -> x.splice(0, -1, 0, 8));
            Due.refuses("splice(0, 2, 0, 8)", Due.INDEX, Studios::busy, x -> x.splice(0, 2, 0, 8));
            Due.refuses("splice(0, 3, 0, 8)", Due.INDEX, Studios::full, x -> x.splice(0, 3, 0, 8));
        });
        test("Promise 16: a place that does not exist", () -> {
            Due.refuses("splice(1, 1, -1, 9)", Due.INDEX, Studios::busy, x -> x.splice(1, 1, -1, 9));
            Due.refuses("splice(1, 1, 10, 9)", Due.INDEX, Studios::busy, x -> x.splice(1, 1, 10, 9));
            Due.refuses("splice(1, 1, 0, -1)", Due.INDEX, Studios::busy, x -> x.splice(1, 1, 0, -1));
            Due.refuses("splice(1, 1, 0, 10)", Due.INDEX, Studios::busy, x -> x.splice(1, 1, 0, 10));
            Due.refuses("splice(2, 2, 0, 61)", Due.INDEX, Studios::full, x -> x.splice(2, 2, 0, 61));
        });
        test("Promise 16: the places 0 and n are there", () -> {
            SplicedLoops x = Studios.silentReel(60);
            splice(x, 0, 1, 0);
            splice(x, 59, 60, 0);
            splice(x, 60, 60, 1);
            splice(x, 0, 0, 1);
        });
        test("Promise 16: one cell, and 48", () -> {
            SplicedLoops x = Studios.silentReel(60);
            splice(x, 5, 6, 0);
            due("cells", x.loopOf(0, 0), 1);
            x = Studios.silentReel(60);
            splice(x, 6, 54, 0);
            due("cells", x.loopOf(0, 0), 48);
        });
        test("Promise 16: a piece goes to the end, its cells from one place to the other one", () -> {
            SplicedLoops x = Studios.reelsOf("1200345006", "7890");
            x.loop();
            x.splice(0, 0, 3, 8);
            due("cells", cells(x, 0), "03450");
            x.splice(0, 0, 0, 3);
            due("cells", cells(x, 0), "03450120");
            x.splice(0, 1, 0, 4);
            due("cells", cells(x, 0), "034501207890");
            x.splice(0, 0, 8, 10);
            due("cells", cells(x, 0), "03450120789006");
        });
        test("Promise 16: the phase is 0 then", () -> {
            SplicedLoops x = Studios.silentLoops(10);
            x.ticks(7);
            splice(x, 0, 1, 0);
            due("the phase", x.loopOf(0, 3), 0);
        });
        test("Promise 16: the phases of other loops stay", () -> {
            SplicedLoops x = Studios.silentLoops(10, 10);
            x.ticks(7);
            splice(x, 0, 1, 0);
            due("the phase", x.loopOf(1, 3), 7);
        });
        test("Promise 16: a refused piece changes nothing of the loop", () -> {
            SplicedLoops x = Studios.silentLoops(10);
            x.ticks(7);
            splice(x, 5, 5, 1);
            loopOf(x, 0, "10 1 1 7 7 0 0 10 1");
        });
        reasons();
    }

    private static void reasons() {
        test("Promise 16: 1: to is not greater than from", () -> {
            SplicedLoops x = Studios.silentReel(60);
            splice(x, 5, 5, 1);
            splice(x, 5, 4, 1);
            splice(x, 60, 0, 1);
            splice(x, 5, 6, 0);
        });
        test("Promise 16: 2: not quiet at from", () -> {
            SplicedLoops x = Studios.reelsOf("0990099");
            x.loop();
            splice(x, 1, 4, 2);
            splice(x, 2, 4, 2);
            splice(x, 3, 4, 2);
            splice(x, 4, 7, 0);
            splice(x, 5, 7, 2);
            splice(x, 6, 7, 2);
        });
        test("Promise 16: 3: not quiet at to", () -> {
            SplicedLoops x = Studios.reelsOf("0990099");
            x.loop();
            splice(x, 0, 1, 3);
            splice(x, 0, 2, 3);
            splice(x, 0, 3, 3);
            splice(x, 0, 4, 0);
            splice(x, 0, 5, 3);
            splice(x, 0, 6, 3);
            splice(x, 0, 7, 0);
        });
        test("Promise 16: 4: more than 48 cells", () -> {
            SplicedLoops x = Studios.silentReel(60);
            splice(x, 0, 49, 4);
            splice(x, 0, 40, 0);
            splice(x, 0, 9, 4);
            splice(x, 0, 8, 0);
            splice(x, 0, 1, 4);
        });
        test("Promise 16: 5: more than 6 pieces", () -> {
            SplicedLoops x = Studios.silentReel(60);
            for (int i = 0; i < 6; i++) {
                splice(x, i, i + 1, 0);
            }
            splice(x, 0, 1, 5);
            splice(x, 0, 42, 5);
        });
        test("Promise 16: 1 is ahead of 2 and of 3", () -> {
            splice(loud(), 5, 5, 1);
            splice(loud(), 6, 5, 1);
            splice(loud(), 6, 0, 1);
            splice(loud(), 60, 5, 1);
        });
        test("Promise 16: 1 is ahead of 5", () -> splice(Studios.sixPieces(), 5, 5, 1));
        test("Promise 16: 2 is ahead of 3", () -> splice(loud(), 1, 59, 2));
        test("Promise 16: 2 is ahead of 4", () -> splice(loud(), 1, 60, 2));
        test("Promise 16: 2 is ahead of 5", () -> splice(Studios.sixPieces(), 1, 3, 2));
        test("Promise 16: 3 is ahead of 4", () -> splice(loud(), 0, 59, 3));
        test("Promise 16: 3 is ahead of 5", () -> splice(Studios.sixPieces(), 0, 1, 3));
        test("Promise 16: 4 is ahead of 5", () -> {
            splice(Studios.sixPieces(), 2, 39, 4);
            splice(Studios.sixPieces(), 2, 38, 5);
        });
        test("Promise 16: each reason is counted, 0 is not", () -> {
            SplicedLoops x = Studios.sixPieces();
            splice(x, 5, 5, 1);
            splice(x, 1, 3, 2);
            splice(x, 0, 1, 3);
            splice(x, 0, 60, 4);
            splice(x, 0, 2, 5);
            due("about(7)", x.about(7), 5);
            x.loop();
            due("splice(1, 0, 0, 2)", x.splice(1, 0, 0, 2), 0);
            due("about(7)", x.about(7), 5);
        });
    }

    private static void promise17() {
        test("Promise 17: a loop that does not exist", () -> {
            Due.refuses("unsplice(-1)", Due.INDEX, Studios::busy, x -> x.unsplice(-1));
            Due.refuses("unsplice(3)", Due.INDEX, Studios::busy, x -> x.unsplice(3));
            Due.refuses("unsplice(4)", Due.INDEX, Studios::full, x -> x.unsplice(4));
            Due.refuses("unsplice(0)", Due.INDEX, Studios::fresh, x -> x.unsplice(0));
        });
        test("Promise 17: an empty loop is refused", () -> {
            Due.refuses("unsplice(2)", Due.STATE, Studios::busy, x -> x.unsplice(2));
            Due.refuses("unsplice(3)", Due.STATE, Studios::fourLoops, x -> x.unsplice(3));
        });
        test("Promise 17: a loop that was emptied is refused", () -> Due.refuses("unsplice(0)", Due.STATE, () -> {
            SplicedLoops x = Studios.silentLoops(5);
            x.unsplice(0);
            return x;
        }, x -> x.unsplice(0)));
        test("Promise 17: the last piece of six, then one by one to none", () -> {
            SplicedLoops x = Studios.sixPieces();
            String all = "102030405060";
            for (int pieces = 5; pieces >= 0; pieces--) {
                due("unsplice(0)", x.unsplice(0), 2 * pieces);
                due("cells", cells(x, 0), all.substring(0, 2 * pieces));
                due("pieces", x.loopOf(0, 8), pieces);
            }
        });
        test("Promise 17: pieces of unlike lengths", () -> {
            SplicedLoops x = Studios.silentLoops(1);
            x.splice(0, 0, 0, 30);
            x.splice(0, 0, 0, 2);
            x.splice(0, 0, 0, 15);
            due("unsplice(0)", x.unsplice(0), 33);
            due("unsplice(0)", x.unsplice(0), 31);
            x.splice(0, 0, 0, 17);
            due("unsplice(0)", x.unsplice(0), 31);
            due("unsplice(0)", x.unsplice(0), 1);
            due("unsplice(0)", x.unsplice(0), 0);
        });
        test("Promise 17: the phase is 0 then, and its speed and whether it is muted stay", () -> {
            SplicedLoops x = Studios.silentLoops(10, 10);
            x.splice(0, 0, 0, 5);
            x.speed(0, 5, 3);
            x.mute(0, true);
            x.ticks(7);
            due("unsplice(0)", x.unsplice(0), 10);
            loopOf(x, 0, "10 5 3 0 0 0 1 6 1");
            due("the phase of the other one", x.loopOf(1, 3), 7);
            x.ticks(1);
            due("unsplice(0)", x.unsplice(0), 0);
            loopOf(x, 0, "0 5 3 0 -1 0 1 -1 0");
        });
        test("Promise 17: a piece whose reel was painted goes off as it came", () -> {
            SplicedLoops x = Studios.loopsOf("12345");
            x.paint(0, 0, 4, 0);
            x.splice(0, 0, 1, 2);
            due("unsplice(0)", x.unsplice(0) + " " + cells(x, 0), "5 12345");
            due("unsplice(0)", x.unsplice(0), 0);
        });
    }

    private static void promise18() {
        test("Promise 18: a loop that does not exist", () -> {
            Due.refuses("speed(-1, 1, 1)", Due.INDEX, Studios::busy, x -> x.speed(-1, 1, 1));
            Due.refuses("speed(3, 1, 1)", Due.INDEX, Studios::busy, x -> x.speed(3, 1, 1));
            Due.refuses("speed(4, 1, 1)", Due.INDEX, Studios::full, x -> x.speed(4, 1, 1));
        });
        test("Promise 18: p out of its range is refused", () -> {
            Due.refuses("speed(0, 0, 1)", Due.ARGUMENT, Studios::busy, x -> x.speed(0, 0, 1));
            Due.refuses("speed(0, 10, 1)", Due.ARGUMENT, Studios::young, x -> x.speed(0, 10, 1));
            Due.refuses("speed(0, -1, 1)", Due.ARGUMENT, Studios::full, x -> x.speed(0, -1, 1));
        });
        test("Promise 18: q out of its range is refused", () -> {
            Due.refuses("speed(0, 1, 0)", Due.ARGUMENT, Studios::busy, x -> x.speed(0, 1, 0));
            Due.refuses("speed(0, 1, 10)", Due.ARGUMENT, Studios::young, x -> x.speed(0, 1, 10));
            Due.refuses("speed(0, 1, -1)", Due.ARGUMENT, Studios::full, x -> x.speed(0, 1, -1));
        });
        test("Promise 18: the loop is named first", () -> {
            Due.refuses("speed(3, 0, 1)", Due.INDEX, Studios::busy, x -> x.speed(3, 0, 1));
            Due.refuses("speed(-1, 1, 10)", Due.INDEX, Studios::busy, x -> x.speed(-1, 1, 10));
        });
        test("Promise 18: p and q of 1 and of 9", () -> {
            SplicedLoops x = Studios.silentLoops(48);
            x.ticks(47);
            due("speed(0, 1, 9)", x.speed(0, 1, 9), 423);
            loopOf(x, 0, "48 1 9 423 47 0 0 432 1");
            due("speed(0, 9, 9)", x.speed(0, 9, 9), 423);
            loopOf(x, 0, "48 9 9 423 47 0 0 48 1");
            due("speed(0, 9, 1)", x.speed(0, 9, 1), 47);
            loopOf(x, 0, "48 9 1 47 47 0 0 16 1");
            due("speed(0, 1, 1)", x.speed(0, 1, 1), 47);
            loopOf(x, 0, "48 1 1 47 47 0 0 48 1");
        });
        test("Promise 18: the head stays at the beginning of its cell, from its last phase there too", () -> {
            SplicedLoops x = Studios.silentLoops(48);
            x.speed(0, 1, 9);
            x.ticks(431);
            due("the same speed", x.speed(0, 1, 9), 423);
            x.ticks(8);
            due("another speed", x.speed(0, 5, 4), 188);
            due("the cell", x.loopOf(0, 4), 47);
        });
        test("Promise 18: an empty loop's phase is 0", () -> {
            SplicedLoops x = Studios.fourLoops();
            due("speed(3, 9, 8)", x.speed(3, 9, 8), 0);
            loopOf(x, 3, "0 9 8 0 -1 0 0 -1 0");
        });
        test("Promise 18: at the first cell the phase is 0", () -> {
            SplicedLoops x = Studios.silentLoops(2);
            x.speed(0, 1, 9);
            x.ticks(8);
            due("speed(0, 2, 9)", x.speed(0, 2, 9), 0);
        });
    }

    private static void promise19() {
        test("Promise 19: a loop that does not exist", () -> {
            for (boolean on : new boolean[] {false, true}) {
                Due.refuses("mute(-1, " + on + ")", Due.INDEX, Studios::busy, x -> x.mute(-1, on));
                Due.refuses("mute(3, " + on + ")", Due.INDEX, Studios::busy, x -> x.mute(3, on));
                Due.refuses("mute(4, " + on + ")", Due.INDEX, Studios::full, x -> x.mute(4, on));
            }
        });
        test("Promise 19: the sound of now then", () -> {
            SplicedLoops x = Studios.loopsOf("12", "34", "56");
            due("mute(0, true)", x.mute(0, true), 8);
            due("mute(2, true)", x.mute(2, true), 3);
            due("mute(1, true)", x.mute(1, true), 0);
            due("mute(2, false)", x.mute(2, false), 5);
        });
        test("Promise 19: a loop that is muted already, or is not", () -> {
            SplicedLoops x = Studios.loopsOf("12");
            due("mute(0, false)", x.mute(0, false) + " " + x.about(5), "1 0");
            due("mute(0, true)", x.mute(0, true) + " " + x.about(5), "0 1");
            due("mute(0, true)", x.mute(0, true) + " " + x.about(5), "0 1");
        });
        test("Promise 19: an empty loop, the last one", () -> {
            SplicedLoops x = Studios.fourLoops();
            due("mute(3, true)", x.mute(3, true) + " " + x.about(5) + " " + x.loopOf(3, 6), "0 8 1");
            due("mute(3, false)", x.mute(3, false) + " " + x.about(5) + " " + x.loopOf(3, 6), "0 0 0");
        });
        test("Promise 19: an empty loop that is muted stays so when it is spliced", () -> {
            SplicedLoops x = Studios.reelsOf("12");
            x.loop();
            x.mute(0, true);
            x.splice(0, 0, 0, 2);
            due("about(3)", x.about(3) + " " + x.loopOf(0, 6), "0 1");
        });
    }

    private static void promise20() {
        test("Promise 20: n is 1 to 999", () -> {
            SplicedLoops x = Studios.loopsOf("1234567");
            due("ticks(1)", x.ticks(1), 2);
            due("the time", x.about(2), 1);
            due("ticks(999)", x.ticks(999), 7);
            due("the time", x.about(2), 1000);
            due("ticks(998)", x.ticks(998), 4);
        });
        test("Promise 20: n out of its range is refused", () -> {
            for (int n : new int[] {-1, 0, 1000, 1001}) {
                Due.refuses("ticks(" + n + ")", Due.ARGUMENT, Studios::busy, x -> x.ticks(n));
                Due.refuses("ticks(" + n + ")", Due.ARGUMENT, Studios::young, x -> x.ticks(n));
            }
            Due.refuses("ticks(1000)", Due.ARGUMENT, Studios::full, x -> x.ticks(1000));
        });
        test("Promise 20: n ticks are n times one tick", () -> {
            SplicedLoops one = Studios.loopsOf("1234567", "98765", "13579");
            one.speed(0, 9, 1);
            one.speed(1, 3, 7);
            one.mute(2, true);
            SplicedLoops all = Studios.loopsOf("1234567", "98765", "13579");
            all.speed(0, 9, 1);
            all.speed(1, 3, 7);
            all.mute(2, true);
            int last = 0;
            for (int i = 0; i < 300; i++) {
                last = one.ticks(1);
            }
            due("ticks(300)", all.ticks(300), last);
            due("the state", Due.stateOf(all), Due.stateOf(one));
        });
        test("Promise 20: without loops", () -> {
            SplicedLoops x = Studios.fresh();
            due("ticks(999)", x.ticks(999) + " " + x.about(2), "0 999");
        });
    }

    private static void promise21() {
        test("Promise 21: a reel that does not exist", () -> {
            Due.refuses("record(-1, 1)", Due.INDEX, Studios::busy, x -> x.record(-1, 1));
            Due.refuses("record(2, 1)", Due.INDEX, Studios::busy, x -> x.record(2, 1));
            Due.refuses("record(3, 1)", Due.INDEX, Studios::full, x -> x.record(3, 1));
            Due.refuses("record(0, 1)", Due.INDEX, Studios::fresh, x -> x.record(0, 1));
        });
        test("Promise 21: n out of its range is refused", () -> {
            Due.refuses("record(1, 0)", Due.ARGUMENT, Studios::busy, x -> x.record(1, 0));
            Due.refuses("record(1, -1)", Due.ARGUMENT, Studios::busy, x -> x.record(1, -1));
            Due.refuses("record(1, 10)", Due.ARGUMENT, Studios::young, x -> x.record(1, 10));
            Due.refuses("record(2, 61)", Due.ARGUMENT, Studios::full, x -> x.record(2, 61));
        });
        test("Promise 21: the reel is named first", () -> {
            Due.refuses("record(2, 0)", Due.INDEX, Studios::busy, x -> x.record(2, 0));
            Due.refuses("record(-1, 61)", Due.INDEX, Studios::busy, x -> x.record(-1, 61));
        });
        test("Promise 21: n of 1 records the sound of now alone", () -> {
            SplicedLoops x = Studios.loopsOf("345");
            x.ticks(1);
            due("record(0, 1)", x.record(0, 1), 4);
            due("sounds", sounds(x, 0), "445");
            due("time and phase", x.about(2) + " " + x.loopOf(0, 3), "2 2");
        });
        test("Promise 21: n of all cells", () -> {
            SplicedLoops x = Studios.loopsOf("345");
            x.reel(60);
            due("record(1, 60)", x.record(1, 60), 240);
            due("sounds", sounds(x, 1), "345".repeat(20));
            due("time and phase", x.about(2) + " " + x.loopOf(0, 3), "60 0");
            due("record(0, 3)", x.record(0, 3), 12);
        });
        test("Promise 21: a reel of 2 cells", () -> {
            SplicedLoops x = Studios.loopsOf("345");
            x.reel(2);
            due("record(1, 2)", x.record(1, 2) + " " + sounds(x, 1), "7 34");
            Due.fails("record(1, 3)", Due.ARGUMENT, () -> x.record(1, 3));
        });
        test("Promise 21: the cells behind the first n stay", () -> {
            SplicedLoops x = Studios.loopsOf("345");
            x.reel(6);
            x.paint(1, 0, 5, 9);
            due("record(1, 4)", x.record(1, 4) + " " + sounds(x, 1), "15 345399");
        });
        test("Promise 21: 9 is recorded as 9, 10 and more as 9 too", () -> {
            SplicedLoops x = Studios.loopsOf("45679", "44449");
            x.reel(5);
            due("record(2, 5)", x.record(2, 5) + " " + sounds(x, 2), "44 89999");
            SplicedLoops four = Studios.reelsOf("99");
            for (int l = 0; l < 4; l++) {
                four.loop();
                four.splice(l, 0, 0, 2);
            }
            due("record(0, 2)", four.record(0, 2) + " " + sounds(four, 0), "18 99");
        });
        test("Promise 21: silence is recorded too", () -> {
            SplicedLoops x = Studios.reelsOf("999");
            due("record(0, 2)", x.record(0, 2) + " " + sounds(x, 0), "0 009");
        });
        test("Promise 21: loops stay as they are, recorded from their own reel too", () -> {
            SplicedLoops x = Studios.loopsOf("345");
            x.ticks(1);
            due("record(0, 3)", x.record(0, 3) + " " + sounds(x, 0) + " " + cells(x, 0), "12 453 345");
        });
    }

    private static void promise22() {
        test("Promise 22: a new object remembers none", () ->
            Due.refuses("undo()", Due.STATE, Studios::fresh, SplicedLoops::undo));
        test("Promise 22: none is remembered behind restore()", () -> Due.refuses("undo()", Due.STATE, () -> {
            SplicedLoops x = Studios.full();
            x.restore(0);
            return x;
        }, SplicedLoops::undo));
        test("Promise 22: none is remembered behind load()", () -> Due.refuses("undo()", Due.STATE, () -> {
            SplicedLoops x = Studios.full();
            x.load();
            return x;
        }, SplicedLoops::undo));
        test("Promise 22: none is remembered when all are taken back", () -> Due.refuses("undo()", Due.STATE, () -> {
            SplicedLoops x = Studios.full();
            for (int i = 0; i < 12; i++) {
                x.undo();
            }
            return x;
        }, SplicedLoops::undo));
        test("Promise 22: it returns 11 to 0 of 12", () -> {
            SplicedLoops x = Studios.full();
            for (int left = 11; left >= 0; left--) {
                due("undo()", x.undo(), left);
            }
        });
        test("Promise 22: it returns 0 of 1", () -> {
            SplicedLoops x = Studios.fresh();
            x.loop();
            due("undo()", x.undo() + " " + x.about(1), "0 0");
        });
        test("Promise 22: the thirteenth action back is not remembered", () -> {
            SplicedLoops x = Studios.fresh();
            x.ticks(100);
            for (int i = 0; i < 12; i++) {
                x.ticks(1);
            }
            for (int i = 0; i < 12; i++) {
                x.undo();
            }
            due("the time", x.about(2), 100);
            Due.fails("undo()", Due.STATE, x::undo);
        });
        test("Promise 22: an action behind it is taken back alone", () -> {
            SplicedLoops x = Studios.fresh();
            x.ticks(1);
            x.ticks(2);
            x.undo();
            x.ticks(4);
            due("undo()", x.undo() + " " + x.about(2), "1 1");
            due("undo()", x.undo() + " " + x.about(2), "0 0");
        });
        test("Promise 22: the text and the save slots stay", () -> {
            SplicedLoops x = Studios.busy();
            x.undo();
            due("clearText()", x.clearText(), 2);
            due("restore(0)", x.restore(0) + " " + x.about(6), "0 25");
            Due.fails("restore(1)", Due.STATE, () -> x.restore(1));
        });
    }

    public static void main(String[] args) {
        promise13();
        promise14();
        promise15();
        promise16();
        promise17();
        promise18();
        promise19();
        promise20();
        promise21();
        promise22();
        Due.close("ActionEdgeTests");
    }
}
