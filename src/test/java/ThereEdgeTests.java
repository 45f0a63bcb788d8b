/** The edges of the promises 6 to 12, what there is, each in a test of its own. */
public final class ThereEdgeTests {
    private static void test(String title, Runnable body) {
        Due.test(title, body);
    }

    private static void due(String call, Object got, Object want) {
        Due.due(call, got, want);
    }

    private static void about(SplicedLoops x, int what, int want) {
        due("about(" + what + ")", x.about(what), want);
    }

    private static void promise6() {
        test("Promise 6: what is 0 to 7", () -> {
            for (int what : new int[] {-1, 8}) {
                Due.refuses("about(" + what + ")", Due.ARGUMENT, Studios::busy, x -> x.about(what));
                Due.refuses("about(" + what + ")", Due.ARGUMENT, Studios::full, x -> x.about(what));
            }
        });
        test("Promise 6: nothing becomes different", () -> {
            int[] want = {2, 3, 2, 7, 2, 0, 25, 0};
            for (int what = 0; what < 8; what++) {
                int w = what;
                Due.asks("about(" + what + ")", want[what], Studios::busy, x -> x.about(w));
            }
        });
        test("Promise 6: 0: no reel, and 3", () -> {
            about(Studios.fresh(), 0, 0);
            about(Studios.threeReels(), 0, 3);
        });
        test("Promise 6: 1: no loop, and 4", () -> {
            about(Studios.fresh(), 1, 0);
            about(Studios.fourLoops(), 1, 4);
        });
        test("Promise 6: 2: the time 0, and that behind 999 ticks", () -> {
            SplicedLoops x = Studios.fresh();
            about(x, 2, 0);
            x.ticks(999);
            about(x, 2, 999);
        });
        test("Promise 6: 3: no sound, and 27 of three loops", () -> {
            about(Studios.loopsOf("0909", "0099", "0009"), 3, 0);
            about(Studios.loopsOf("90", "90", "90"), 3, 27);
        });
        test("Promise 6: 4: no loop that is not empty, and 4", () -> {
            about(Studios.fourLoops(), 4, 0);
            SplicedLoops x = Studios.silentLoops(1, 48, 1, 2);
            about(x, 4, 4);
            x.mute(2, true);
            about(x, 4, 4);
            x.unsplice(2);
            about(x, 4, 3);
        });
        test("Promise 6: 5: no muted loop, each alone, and all", () -> {
            for (int set = 0; set < 16; set++) {
                SplicedLoops x = Studios.fourLoops();
                for (int l = 0; l < 4; l++) {
                    x.mute(l, (set >> l & 1) == 1);
                }
                about(x, 5, set);
            }
        });
        test("Promise 6: 5: a loop that is not empty too", () -> {
            SplicedLoops x = Studios.silentLoops(1, 2, 3, 4);
            x.mute(3, true);
            about(x, 5, 8);
        });
        test("Promise 6: 6: no cell, and 192", () -> {
            about(Studios.fourLoops(), 6, 0);
            about(Studios.silentLoops(1), 6, 1);
            about(Studios.silentLoops(48, 48, 48, 48), 6, 192);
        });
        test("Promise 6: 6: muted loops too", () -> {
            SplicedLoops x = Studios.silentLoops(5, 7);
            x.mute(0, true);
            about(x, 6, 12);
        });
        test("Promise 6: 7: splice was refused never, once, often", () -> {
            SplicedLoops x = Studios.silentReel(5);
            about(x, 7, 0);
            x.splice(0, 0, 0, 5);
            about(x, 7, 0);
            for (int i = 1; i <= 30; i++) {
                x.splice(0, 0, 0, 0);
                about(x, 7, i);
            }
        });
        test("Promise 6: 7: a splice that throws is not counted", () -> {
            SplicedLoops x = Studios.silentReel(5);
            Due.fails("splice(0, 0, 0, 6)", Due.INDEX, () -> x.splice(0, 0, 0, 6));
            Due.fails("splice(1, 0, 0, 0)", Due.INDEX, () -> x.splice(1, 0, 0, 0));
            Due.fails("splice(0, 1, 0, 0)", Due.INDEX, () -> x.splice(0, 1, 0, 0));
            about(x, 7, 0);
        });
        test("Promise 6: 7: scripts and simulations do not count", () -> {
            SplicedLoops x = Studios.silentReel(5);
            x.runScript(1, 2000000);
            x.simulate(1, 60);
            about(x, 7, 0);
        });
    }

    private static void reelOf(SplicedLoops x, String want) {
        StringBuilder all = new StringBuilder();
        for (int what = 0; what < 5; what++) {
            all.append(x.reelOf(0, what)).append(' ');
        }
        due("reelOf(0, 0 to 4)", all.toString(), want + " ");
    }

    private static void promise7() {
        test("Promise 7: a reel that does not exist", () -> {
            Due.refuses("reelOf(-1, 0)", Due.INDEX, Studios::busy, x -> x.reelOf(-1, 0));
            Due.refuses("reelOf(2, 0)", Due.INDEX, Studios::busy, x -> x.reelOf(2, 0));
            Due.refuses("reelOf(3, 0)", Due.INDEX, Studios::full, x -> x.reelOf(3, 0));
            Due.refuses("reelOf(0, 0)", Due.INDEX, Studios::fresh, x -> x.reelOf(0, 0));
        });
        test("Promise 7: what is 0 to 4", () -> {
            Due.refuses("reelOf(1, -1)", Due.ARGUMENT, Studios::busy, x -> x.reelOf(1, -1));
            Due.refuses("reelOf(1, 5)", Due.ARGUMENT, Studios::busy, x -> x.reelOf(1, 5));
            Due.refuses("reelOf(2, 5)", Due.ARGUMENT, Studios::full, x -> x.reelOf(2, 5));
        });
        test("Promise 7: the reel is named first", () -> {
            Due.refuses("reelOf(2, 5)", Due.INDEX, Studios::busy, x -> x.reelOf(2, 5));
            Due.refuses("reelOf(-1, -1)", Due.INDEX, Studios::busy, x -> x.reelOf(-1, -1));
        });
        test("Promise 7: nothing becomes different", () -> {
            int[] want = {20, 4, 3, 31, 3};
            for (int what = 0; what < 5; what++) {
                int w = what;
                Due.asks("reelOf(0, " + what + ")", want[what], Studios::busy, x -> x.reelOf(0, w));
            }
        });
        test("Promise 7: without any silence the longest one has 0 cells", () -> {
            reelOf(Studios.reelsOf("99"), "2 0 1 18 0");
            reelOf(Studios.reelsOf("1".repeat(60)), "60 0 1 60 0");
        });
        test("Promise 7: without any piece the reel is one silence", () -> {
            reelOf(Studios.reelsOf("00"), "2 1 0 0 2");
            reelOf(Studios.reelsOf("0".repeat(60)), "60 1 0 0 60");
        });
        test("Promise 7: 30 silences and 30 pieces", () -> {
            reelOf(Studios.reelsOf("01".repeat(30)), "60 30 30 30 1");
            reelOf(Studios.reelsOf("20".repeat(30)), "60 30 30 60 1");
        });
        test("Promise 7: silences and pieces at both ends", () -> {
            reelOf(Studios.reelsOf("090"), "3 2 1 9 1");
            reelOf(Studios.reelsOf("909"), "3 1 2 18 1");
        });
        test("Promise 7: the greatest sum is 540", () -> reelOf(Studios.reelsOf("9".repeat(60)), "60 0 1 540 0"));
        test("Promise 7: the longest silence is the first one or the last one", () -> {
            reelOf(Studios.reelsOf("00010010"), "8 3 2 2 3");
            reelOf(Studios.reelsOf("01001000"), "8 3 2 2 3");
        });
    }

    private static void promise8() {
        test("Promise 8: the first cell and the last one", () -> {
            SplicedLoops x = Studios.reelsOf("12", "3" + "0".repeat(58) + "4");
            due("sound(0, 0)", x.sound(0, 0), 1);
            due("sound(0, 1)", x.sound(0, 1), 2);
            due("sound(1, 0)", x.sound(1, 0), 3);
            due("sound(1, 59)", x.sound(1, 59), 4);
            due("sound(1, 58)", x.sound(1, 58), 0);
        });
        test("Promise 8: a reel that does not exist", () -> {
            Due.refuses("sound(-1, 0)", Due.INDEX, Studios::busy, x -> x.sound(-1, 0));
            Due.refuses("sound(2, 0)", Due.INDEX, Studios::busy, x -> x.sound(2, 0));
            Due.refuses("sound(3, 0)", Due.INDEX, Studios::full, x -> x.sound(3, 0));
            Due.refuses("sound(0, 0)", Due.INDEX, Studios::fresh, x -> x.sound(0, 0));
        });
        test("Promise 8: a cell that does not exist", () -> {
            Due.refuses("sound(0, -1)", Due.INDEX, Studios::busy, x -> x.sound(0, -1));
            Due.refuses("sound(0, 20)", Due.INDEX, Studios::busy, x -> x.sound(0, 20));
            Due.refuses("sound(1, 9)", Due.INDEX, Studios::busy, x -> x.sound(1, 9));
            Due.refuses("sound(2, 60)", Due.INDEX, Studios::full, x -> x.sound(2, 60));
        });
        test("Promise 8: nothing becomes different", () ->
            Due.asks("sound(0, 19)", 0, Studios::busy, x -> x.sound(0, 19)));
    }

    private static void silence(String sounds, int k, String want) {
        SplicedLoops x = Studios.reelsOf(sounds);
        due("silence " + k + " of " + sounds, x.silence(0, k, 0) + " " + x.silence(0, k, 1) + " " + x.silence(0, k, 2), want);
    }

    private static void promise9() {
        test("Promise 9: a reel that does not exist", () -> {
            Due.refuses("silence(-1, 0, 0)", Due.INDEX, Studios::busy, x -> x.silence(-1, 0, 0));
            Due.refuses("silence(2, 0, 0)", Due.INDEX, Studios::busy, x -> x.silence(2, 0, 0));
            Due.refuses("silence(3, 0, 0)", Due.INDEX, Studios::full, x -> x.silence(3, 0, 0));
            Due.refuses("silence(0, 0, 0)", Due.INDEX, Studios::fresh, x -> x.silence(0, 0, 0));
        });
        test("Promise 9: a silence that does not exist", () -> {
            Due.refuses("silence(0, -1, 0)", Due.INDEX, Studios::busy, x -> x.silence(0, -1, 0));
            Due.refuses("silence(0, 4, 0)", Due.INDEX, Studios::busy, x -> x.silence(0, 4, 0));
            Due.refuses("silence(1, 2, 0)", Due.INDEX, Studios::busy, x -> x.silence(1, 2, 0));
            Due.refuses("silence(0, 0, 0) without a silence", Due.INDEX, () -> Studios.reelsOf("99"), x -> x.silence(0, 0, 0));
        });
        test("Promise 9: what is 0 to 2", () -> {
            Due.refuses("silence(0, 3, -1)", Due.ARGUMENT, Studios::busy, x -> x.silence(0, 3, -1));
            Due.refuses("silence(0, 3, 3)", Due.ARGUMENT, Studios::busy, x -> x.silence(0, 3, 3));
        });
        test("Promise 9: the reel and the silence are named first", () -> {
            Due.refuses("silence(2, 0, 3)", Due.INDEX, Studios::busy, x -> x.silence(2, 0, 3));
            Due.refuses("silence(0, 4, 3)", Due.INDEX, Studios::busy, x -> x.silence(0, 4, 3));
            Due.refuses("silence(0, -1, -1)", Due.INDEX, Studios::busy, x -> x.silence(0, -1, -1));
        });
        test("Promise 9: nothing becomes different", () -> {
            Due.asks("silence(0, 3, 0)", 17, Studios::busy, x -> x.silence(0, 3, 0));
            Due.asks("silence(0, 3, 1)", 3, Studios::busy, x -> x.silence(0, 3, 1));
            Due.asks("silence(0, 3, 2)", 18, Studios::busy, x -> x.silence(0, 3, 2));
        });
        test("Promise 9: the place ahead of its cells, at the beginning of the reel", () -> {
            silence("09", 0, "0 1 0");
            silence("00", 0, "0 2 0");
            silence("0".repeat(60), 0, "0 60 0");
        });
        test("Promise 9: a place between its cells", () -> {
            silence("9009", 0, "1 2 2");
            silence("90009", 0, "1 3 2");
            silence("900", 0, "1 2 2");
        });
        test("Promise 9: the place behind its cells, at the end of the reel", () -> {
            silence("90", 0, "1 1 2");
            silence("9".repeat(59) + "0", 0, "59 1 60");
        });
        test("Promise 9: NONE for one cell within the reel", () -> {
            silence("909", 0, "1 1 -1");
            silence("0909", 1, "2 1 -1");
            silence("9".repeat(58) + "09", 0, "58 1 -1");
        });
        test("Promise 9: the first silence and the last of 30", () -> {
            silence("05".repeat(30), 0, "0 1 0");
            silence("05".repeat(30), 29, "58 1 -1");
            silence("50".repeat(30), 29, "59 1 60");
        });
    }

    private static void piece(String sounds, int k, String want) {
        SplicedLoops x = Studios.reelsOf(sounds);
        due("piece " + k + " of " + sounds, x.piece(0, k, 0) + " " + x.piece(0, k, 1) + " " + x.piece(0, k, 2), want);
    }

    private static void promise10() {
        test("Promise 10: a reel that does not exist", () -> {
            Due.refuses("piece(-1, 0, 0)", Due.INDEX, Studios::busy, x -> x.piece(-1, 0, 0));
            Due.refuses("piece(2, 0, 0)", Due.INDEX, Studios::busy, x -> x.piece(2, 0, 0));
            Due.refuses("piece(3, 0, 0)", Due.INDEX, Studios::full, x -> x.piece(3, 0, 0));
            Due.refuses("piece(0, 0, 0)", Due.INDEX, Studios::fresh, x -> x.piece(0, 0, 0));
        });
        test("Promise 10: a piece that does not exist", () -> {
            Due.refuses("piece(0, -1, 0)", Due.INDEX, Studios::busy, x -> x.piece(0, -1, 0));
            Due.refuses("piece(0, 3, 0)", Due.INDEX, Studios::busy, x -> x.piece(0, 3, 0));
            Due.refuses("piece(1, 1, 0)", Due.INDEX, Studios::busy, x -> x.piece(1, 1, 0));
            Due.refuses("piece(0, 0, 0) without a piece", Due.INDEX, () -> Studios.reelsOf("00"), x -> x.piece(0, 0, 0));
        });
        test("Promise 10: what is 0 to 2", () -> {
            Due.refuses("piece(0, 2, -1)", Due.ARGUMENT, Studios::busy, x -> x.piece(0, 2, -1));
            Due.refuses("piece(0, 2, 3)", Due.ARGUMENT, Studios::busy, x -> x.piece(0, 2, 3));
        });
        test("Promise 10: the reel and the piece are named first", () -> {
            Due.refuses("piece(2, 0, 3)", Due.INDEX, Studios::busy, x -> x.piece(2, 0, 3));
            Due.refuses("piece(0, 3, 3)", Due.INDEX, Studios::busy, x -> x.piece(0, 3, 3));
            Due.refuses("piece(0, -1, -1)", Due.INDEX, Studios::busy, x -> x.piece(0, -1, -1));
        });
        test("Promise 10: nothing becomes different", () -> {
            Due.asks("piece(0, 2, 0)", 14, Studios::busy, x -> x.piece(0, 2, 0));
            Due.asks("piece(0, 2, 1)", 3, Studios::busy, x -> x.piece(0, 2, 1));
            Due.asks("piece(0, 2, 2)", 2, Studios::busy, x -> x.piece(0, 2, 2));
        });
        test("Promise 10: a piece at the beginning and at the end of the reel", () -> {
            piece("9900", 0, "0 2 9");
            piece("0099", 0, "2 2 9");
            piece("1".repeat(60), 0, "0 60 1");
        });
        test("Promise 10: a piece of one cell", () -> {
            piece("30", 0, "0 1 3");
            piece("040", 0, "1 1 4");
            piece("05", 0, "1 1 5");
        });
        test("Promise 10: its greatest sound is its first, its last, one between, not a neighbour's", () -> {
            piece("0921090", 0, "1 3 9");
            piece("9012908", 1, "2 3 9");
            piece("9018209", 1, "2 3 8");
            piece("9010900", 1, "2 1 1");
        });
        test("Promise 10: the first piece and the last of 30", () -> {
            piece("70".repeat(30), 0, "0 1 7");
            piece("70".repeat(30), 29, "58 1 7");
            piece("07".repeat(30), 29, "59 1 7");
        });
    }

    private static void loopOf(SplicedLoops x, int l, String want) {
        StringBuilder all = new StringBuilder();
        for (int what = 0; what < 9; what++) {
            all.append(what == 0 ? "" : " ").append(x.loopOf(l, what));
        }
        due("loopOf(" + l + ", 0 to 8)", all.toString(), want);
    }

    private static void promise11() {
        test("Promise 11: a loop that does not exist", () -> {
            Due.refuses("loopOf(-1, 0)", Due.INDEX, Studios::busy, x -> x.loopOf(-1, 0));
            Due.refuses("loopOf(3, 0)", Due.INDEX, Studios::busy, x -> x.loopOf(3, 0));
            Due.refuses("loopOf(4, 0)", Due.INDEX, Studios::full, x -> x.loopOf(4, 0));
            Due.refuses("loopOf(0, 0)", Due.INDEX, Studios::fresh, x -> x.loopOf(0, 0));
        });
        test("Promise 11: what is 0 to 8", () -> {
            Due.refuses("loopOf(0, -1)", Due.ARGUMENT, Studios::busy, x -> x.loopOf(0, -1));
            Due.refuses("loopOf(0, 9)", Due.ARGUMENT, Studios::busy, x -> x.loopOf(0, 9));
            Due.refuses("loopOf(2, 9) of an empty loop", Due.ARGUMENT, Studios::busy, x -> x.loopOf(2, 9));
        });
        test("Promise 11: the loop is named first", () -> {
            Due.refuses("loopOf(3, 9)", Due.INDEX, Studios::busy, x -> x.loopOf(3, 9));
            Due.refuses("loopOf(-1, -1)", Due.INDEX, Studios::busy, x -> x.loopOf(-1, -1));
        });
        test("Promise 11: nothing becomes different", () -> {
            int[] want = {16, 1, 1, 2, 2, 0, 0, 16, 2};
            for (int what = 0; what < 9; what++) {
                int w = what;
                Due.asks("loopOf(0, " + what + ")", want[what], Studios::busy, x -> x.loopOf(0, w));
            }
        });
        test("Promise 11: an empty loop: no head, no sound, no period", () -> {
            SplicedLoops x = Studios.fourLoops();
            x.speed(3, 9, 8);
            x.mute(3, true);
            x.ticks(5);
            loopOf(x, 0, "0 1 1 0 -1 0 0 -1 0");
            loopOf(x, 3, "0 9 8 0 -1 0 1 -1 0");
        });
        test("Promise 11: a loop that was emptied", () -> {
            SplicedLoops x = Studios.loopsOf("78");
            x.ticks(1);
            loopOf(x, 0, "2 1 1 1 1 8 0 2 1");
            x.unsplice(0);
            loopOf(x, 0, "0 1 1 0 -1 0 0 -1 0");
        });
        test("Promise 11: the head at the last cell, in its last phase", () -> {
            SplicedLoops x = Studios.loopsOf("0".repeat(47) + "5");
            x.speed(0, 1, 9);
            x.ticks(431);
            loopOf(x, 0, "48 1 9 431 47 5 0 432 1");
            x.ticks(1);
            loopOf(x, 0, "48 1 9 0 0 0 0 432 1");
        });
        test("Promise 11: a loop of one cell", () -> {
            SplicedLoops x = Studios.reelsOf("300");
            x.loop();
            x.splice(0, 0, 2, 3);
            loopOf(x, 0, "1 1 1 0 0 0 0 1 1");
        });
        test("Promise 11: what is in the cell of a muted loop's head", () -> {
            SplicedLoops x = Studios.loopsOf("78");
            x.mute(0, true);
            loopOf(x, 0, "2 1 1 0 0 7 1 2 1");
        });
        test("Promise 11: 6 pieces", () -> loopOf(Studios.sixPieces(), 0, "12 1 1 0 0 1 0 12 6"));
    }

    private static void promise12() {
        test("Promise 12: the first cell and the last one", () -> {
            SplicedLoops x = Studios.loopsOf("3" + "0".repeat(46) + "4", "12");
            due("cell(0, 0)", x.cell(0, 0), 3);
            due("cell(0, 47)", x.cell(0, 47), 4);
            due("cell(1, 0)", x.cell(1, 0), 1);
            due("cell(1, 1)", x.cell(1, 1), 2);
        });
        test("Promise 12: a loop that does not exist", () -> {
            Due.refuses("cell(-1, 0)", Due.INDEX, Studios::busy, x -> x.cell(-1, 0));
            Due.refuses("cell(3, 0)", Due.INDEX, Studios::busy, x -> x.cell(3, 0));
            Due.refuses("cell(4, 0)", Due.INDEX, Studios::full, x -> x.cell(4, 0));
            Due.refuses("cell(0, 0)", Due.INDEX, Studios::fresh, x -> x.cell(0, 0));
        });
        test("Promise 12: a cell that does not exist", () -> {
            Due.refuses("cell(0, -1)", Due.INDEX, Studios::busy, x -> x.cell(0, -1));
            Due.refuses("cell(0, 16)", Due.INDEX, Studios::busy, x -> x.cell(0, 16));
            Due.refuses("cell(1, 9)", Due.INDEX, Studios::busy, x -> x.cell(1, 9));
            Due.refuses("cell(0, 48)", Due.INDEX, () -> Studios.silentLoops(48), x -> x.cell(0, 48));
        });
        test("Promise 12: an empty loop has no cell", () -> {
            Due.refuses("cell(2, 0)", Due.INDEX, Studios::busy, x -> x.cell(2, 0));
            Due.refuses("cell(0, 0) of an emptied loop", Due.INDEX, () -> {
                SplicedLoops x = Studios.loopsOf("78");
                x.unsplice(0);
                return x;
            }, x -> x.cell(0, 0));
        });
        test("Promise 12: a cell that was taken off is no more", () -> {
            SplicedLoops x = Studios.usual();
            x.unsplice(0);
            due("cell(0, 7)", x.cell(0, 7), 0);
            Due.fails("cell(0, 8)", Due.INDEX, () -> x.cell(0, 8));
        });
        test("Promise 12: cells are copies", () -> {
            SplicedLoops x = Studios.loopsOf("12");
            x.paint(0, 0, 1, 9);
            due("cells", x.cell(0, 0) + " " + x.cell(0, 1), "1 2");
        });
        test("Promise 12: nothing becomes different", () -> Due.asks("cell(0, 3)", 4, Studios::busy, x -> x.cell(0, 3)));
    }

    public static void main(String[] args) {
        promise6();
        promise7();
        promise8();
        promise9();
        promise10();
        promise11();
        promise12();
        Due.close("ThereEdgeTests");
    }
}
