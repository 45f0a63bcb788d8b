/** The edges of the promises 23 to 27, what would be if nothing else is done, each in a test of its own. */
public final class WouldBeEdgeTests {
    private static void test(String title, Runnable body) {
        Due.test(title, body);
    }

    private static void due(String call, Object got, Object want) {
        Due.due(call, got, want);
    }

    private static void promise23() {
        test("Promise 23: n is 0 to 1000000", () -> {
            SplicedLoops x = Studios.loopsOf("1234567");
            due("soundIn(0)", x.soundIn(0), 1);
            due("soundIn(1)", x.soundIn(1), 2);
            due("soundIn(999999)", x.soundIn(999999), 1);
            due("soundIn(1000000)", x.soundIn(1000000), 2);
        });
        test("Promise 23: n out of its range is refused", () -> {
            for (int n : new int[] {-1, 1000001}) {
                Due.refuses("soundIn(" + n + ")", Due.ARGUMENT, Studios::busy, x -> x.soundIn(n));
                Due.refuses("soundIn(" + n + ")", Due.ARGUMENT, Studios::full, x -> x.soundIn(n));
            }
        });
        test("Promise 23: 0 ticks later is now", () -> {
            SplicedLoops x = Studios.full();
            due("soundIn(0)", x.soundIn(0), x.about(3));
        });
        test("Promise 23: 1000000 ticks at the greatest speed, from the greatest phase", () -> {
            // 47 + 9 * 1000000 = 9000047, and 9000047 % 48 = 47.
            SplicedLoops x = Studios.loopsOf("0".repeat(46) + "57");
            x.ticks(47);
            x.speed(0, 9, 1);
            due("soundIn(1000000)", x.soundIn(1000000), 7);
            // 431 + 9 * 1000000 = 9000431, and 9000431 % 432 = 143, the phase of the cell 15.
            SplicedLoops y = Studios.loopsOf("0".repeat(15) + "8" + "0".repeat(32));
            y.speed(0, 1, 9);
            y.ticks(422);
            y.speed(0, 9, 9);
            y.ticks(1);
            due("the phase", y.loopOf(0, 3), 423);
            due("soundIn(1000000)", y.soundIn(1000000), 8);
        });
        test("Promise 23: at the least speed", () -> {
            // 1000000 % 432 = 352, the phase of the cell 39.
            SplicedLoops x = Studios.loopsOf("0".repeat(39) + "6" + "0".repeat(8));
            x.speed(0, 1, 9);
            due("soundIn(1000000)", x.soundIn(1000000), 6);
            due("soundIn(999992)", x.soundIn(999992), 0);
            due("soundIn(999999)", x.soundIn(999999), 6);
        });
        test("Promise 23: without loops, with empty and with muted ones", () -> {
            due("soundIn(5) without loops", Studios.fresh().soundIn(5), 0);
            due("soundIn(1000000) of empty loops", Studios.fourLoops().soundIn(1000000), 0);
            SplicedLoops x = Studios.loopsOf("99", "11");
            x.mute(0, true);
            due("soundIn(5) with a muted loop", x.soundIn(5), 1);
        });
        test("Promise 23: nothing becomes different", () -> {
            Due.asks("soundIn(999999)", 7, Studios::busy, x -> x.soundIn(999999));
            Due.asks("soundIn(0)", 7, Studios::busy, x -> x.soundIn(0));
        });
    }

    /** Both ways tell the same, whichever loop is named first. */
    private static void meets(SplicedLoops x, int l, int l2, int want) {
        for (int way = 0; way < 2; way++) {
            due("meet(" + l + ", " + l2 + ", " + way + ")", x.meet(l, l2, way), want);
            due("meet(" + l2 + ", " + l + ", " + way + ")", x.meet(l2, l, way), want);
        }
    }

    /** A loop of so many silent cells, and behind some ticks another one of so many cells at 0. */
    private static SplicedLoops apart(int cells, int ticks, int otherCells) {
        SplicedLoops x = Studios.silentLoops(cells);
        x.loop();
        x.ticks(ticks);
        x.splice(1, 0, 0, otherCells);
        return x;
    }

    /** Behind how many ticks two phases are 0, told tick by tick. */
    private static int byTicks(int phase, int p, int phases, int phase2, int p2, int phases2) {
        for (int t = 0; t < phases * phases2; t++) {
            if ((phase + t * p) % phases == 0 && (phase2 + t * p2) % phases2 == 0) {
                return t;
            }
        }
        return -1;
    }

    private static void promise24() {
        test("Promise 24: a loop that does not exist", () -> {
            for (int way = 0; way < 2; way++) {
                int w = way;
                Due.refuses("meet(-1, 0, " + w + ")", Due.INDEX, Studios::busy, x -> x.meet(-1, 0, w));
                Due.refuses("meet(3, 0, " + w + ")", Due.INDEX, Studios::busy, x -> x.meet(3, 0, w));
                Due.refuses("meet(0, -1, " + w + ")", Due.INDEX, Studios::busy, x -> x.meet(0, -1, w));
                Due.refuses("meet(0, 3, " + w + ")", Due.INDEX, Studios::busy, x -> x.meet(0, 3, w));
                Due.refuses("meet(4, 4, " + w + ")", Due.INDEX, Studios::full, x -> x.meet(4, 4, w));
                Due.refuses("meet(2, 3, " + w + ") of an empty loop", Due.INDEX, Studios::busy, x -> x.meet(2, 3, w));
            }
        });
        test("Promise 24: way is 0 or 1", () -> {
            for (int way : new int[] {-1, 2}) {
                Due.refuses("meet(0, 1, " + way + ")", Due.ARGUMENT, Studios::busy, x -> x.meet(0, 1, way));
                Due.refuses("meet(2, 2, " + way + ") of an empty loop", Due.ARGUMENT, Studios::busy, x -> x.meet(2, 2, way));
            }
        });
        test("Promise 24: the loops are named first", () -> {
            Due.refuses("meet(3, 0, 2)", Due.INDEX, Studios::busy, x -> x.meet(3, 0, 2));
            Due.refuses("meet(0, -1, -1)", Due.INDEX, Studios::busy, x -> x.meet(0, -1, -1));
        });
        test("Promise 24: 0 if they meet now", () -> {
            meets(Studios.silentLoops(48, 47), 0, 1, 0);
            meets(Studios.silentLoops(1, 1), 0, 1, 0);
            meets(Studios.silentLoops(48, 48), 0, 1, 0);
        });
        test("Promise 24: a loop meets itself", () -> {
            SplicedLoops x = Studios.silentLoops(48);
            meets(x, 0, 0, 0);
            x.ticks(1);
            meets(x, 0, 0, 47);
            x.ticks(46);
            meets(x, 0, 0, 1);
            x.ticks(1);
            meets(x, 0, 0, 0);
        });
        test("Promise 24: a loop that is never at 0 does not meet itself", () -> {
            SplicedLoops x = Studios.silentLoops(48);
            x.ticks(1);
            x.speed(0, 2, 1);
            meets(x, 0, 0, -1);
        });
        test("Promise 24: an empty loop meets none", () -> {
            SplicedLoops x = Studios.silentLoops(5);
            x.loop();
            x.loop();
            meets(x, 0, 1, -1);
            meets(x, 1, 1, -1);
            meets(x, 1, 2, -1);
        });
        test("Promise 24: a loop that was emptied meets none", () -> {
            SplicedLoops x = Studios.silentLoops(5, 6);
            x.unsplice(1);
            meets(x, 0, 1, -1);
            meets(x, 1, 1, -1);
        });
        test("Promise 24: the ticks to go are fewer than the least common multiple of both periods", () -> {
            SplicedLoops x = Studios.silentLoops(5, 7);
            x.ticks(1);
            meets(x, 0, 1, 34);
            x.ticks(33);
            meets(x, 0, 1, 1);
            x.ticks(1);
            meets(x, 0, 1, 0);
        });
        test("Promise 24: the longest way that there is to go", () -> {
            // 9 * 47 = 423 and 48 * 9 = 432 have the divisor 9; 9 * 43 = 387 and 8 * 47 = 376 none: 145512 in all.
            SplicedLoops x = Studios.silentLoops(43, 47);
            x.speed(0, 1, 9);
            x.speed(1, 1, 8);
            x.ticks(1);
            meets(x, 0, 1, 145511);
            SplicedLoops y = Studios.silentLoops(47, 48);
            y.speed(0, 1, 9);
            y.speed(1, 1, 9);
            y.ticks(1);
            meets(y, 0, 1, 9 * 47 * 48 - 1);
        });
        test("Promise 24: never, if what is left is no multiple of the divisor", () -> {
            meets(apart(4, 1, 4), 0, 1, -1);
            meets(apart(4, 1, 8), 0, 1, -1);
            meets(apart(4, 2, 8), 0, 1, -1);
            meets(apart(6, 1, 9), 0, 1, -1);
            meets(apart(6, 2, 9), 0, 1, -1);
        });
        test("Promise 24: later, if what is left is a multiple of the divisor", () -> {
            // At 3 and then each 6 ticks; at 0 and then each 9.
            meets(apart(6, 3, 9), 0, 1, 9);
            // At 2 and then each 6 ticks; at 0 and then each 4.
            meets(apart(6, 4, 4), 0, 1, 8);
            // At 4 and then each 6; at 0 and then each 4.
            meets(apart(6, 2, 4), 0, 1, 4);
        });
        test("Promise 24: one is never at 0", () -> {
            SplicedLoops x = Studios.silentLoops(4, 3);
            x.ticks(1);
            x.speed(0, 2, 1);
            meets(x, 0, 1, -1);
            meets(x, 1, 1, 2);
        });
        test("Promise 24: a period of 1", () -> {
            SplicedLoops x = Studios.silentLoops(1, 5);
            x.ticks(2);
            meets(x, 0, 1, 3);
            meets(x, 0, 0, 0);
            SplicedLoops stuck = Studios.silentLoops(3, 5);
            stuck.ticks(1);
            stuck.speed(0, 9, 1);
            meets(stuck, 0, 1, -1);
            meets(stuck, 0, 0, -1);
        });
        test("Promise 24: both ways agree for each speed", () -> {
            for (int p = 1; p <= 9; p++) {
                for (int q = 1; q <= 9; q++) {
                    SplicedLoops x = Studios.silentLoops(4, 6);
                    x.ticks(3);
                    x.speed(0, p, q);
                    x.speed(1, q, p);
                    for (int i = 0; i < 10; i++) {
                        meets(x, 0, 1, byTicks(x.loopOf(0, 3), p, 4 * q, x.loopOf(1, 3), q, 6 * p));
                        meets(x, 0, 0, byTicks(x.loopOf(0, 3), p, 4 * q, x.loopOf(0, 3), p, 4 * q));
                        x.ticks(1);
                    }
                }
            }
        });
        test("Promise 24: muted loops meet too", () -> {
            SplicedLoops x = Studios.silentLoops(5, 7);
            x.ticks(1);
            x.mute(0, true);
            x.mute(1, true);
            meets(x, 0, 1, 34);
        });
        test("Promise 24: nothing becomes different", () -> {
            Due.asks("meet(0, 1, 0)", 142, Studios::busy, x -> x.meet(0, 1, 0));
            Due.asks("meet(0, 1, 1)", 142, Studios::busy, x -> x.meet(0, 1, 1));
        });
    }

    /** Loops of the periods 376, 387 and 7, which are all at 0 each 1018584 ticks; so many ticks ahead of that. */
    private static SplicedLoops farApart(int ahead) {
        SplicedLoops x = Studios.silentLoops(47, 43, 7);
        x.speed(0, 1, 8);
        x.speed(1, 1, 9);
        Studios.ticks(x, 1018584 - ahead);
        return x;
    }

    private static void promise25() {
        test("Promise 25: NONE without loops", () -> due("meetAll()", Studios.fresh().meetAll(), -1));
        test("Promise 25: NONE if all are empty", () -> {
            due("meetAll() of 4", Studios.fourLoops().meetAll(), -1);
            SplicedLoops x = Studios.silentLoops(5);
            x.unsplice(0);
            due("meetAll() of one that was emptied", x.meetAll(), -1);
        });
        test("Promise 25: empty loops are left out", () -> {
            SplicedLoops x = Studios.fourLoops();
            x.reel(20);
            x.splice(3, 0, 0, 20);
            x.ticks(1);
            due("meetAll()", x.meetAll(), 19);
            x.splice(1, 0, 0, 3);
            // At 19 and then each 20 ticks; at 0 and then each 3.
            due("meetAll()", x.meetAll(), 39);
        });
        test("Promise 25: 0 if they meet now", () -> {
            due("meetAll()", Studios.silentLoops(48, 47, 46, 45).meetAll(), 0);
            due("meetAll() of one", Studios.silentLoops(1).meetAll(), 0);
        });
        test("Promise 25: one loop alone", () -> {
            SplicedLoops x = Studios.silentLoops(48);
            x.ticks(1);
            due("meetAll()", x.meetAll(), 47);
        });
        test("Promise 25: four loops, just behind their meeting", () -> {
            SplicedLoops x = Studios.silentLoops(5, 7, 9, 11);
            x.ticks(1);
            due("meetAll()", x.meetAll(), 3464);
            x.ticks(999);
            due("meetAll()", x.meetAll(), 2465);
        });
        test("Promise 25: muted loops count too", () -> {
            SplicedLoops x = Studios.silentLoops(5, 7);
            x.mute(1, true);
            x.ticks(1);
            due("meetAll()", x.meetAll(), 34);
        });
        test("Promise 25: behind 1000000 ticks they meet by then", () -> {
            due("meetAll()", farApart(1000000).meetAll(), 1000000);
            due("meetAll()", farApart(999999).meetAll(), 999999);
        });
        test("Promise 25: NONE if they meet behind 1000001 ticks", () -> {
            due("meetAll()", farApart(1000001).meetAll(), -1);
            due("meetAll()", farApart(1018583).meetAll(), -1);
        });
        test("Promise 25: NONE if they never meet", () -> {
            due("meetAll() of 4 and 4", apart(4, 1, 4).meetAll(), -1);
            due("meetAll() of 6 and 9", apart(6, 1, 9).meetAll(), -1);
            SplicedLoops x = Studios.silentLoops(4);
            x.ticks(1);
            x.speed(0, 2, 1);
            due("meetAll() of one that is never at 0", x.meetAll(), -1);
        });
        test("Promise 25: NONE if two never meet, whatever those behind them do", () -> {
            SplicedLoops x = apart(4, 1, 3);
            x.speed(0, 2, 1);
            due("meetAll() with a first one that is never at 0", x.meetAll(), -1);
            SplicedLoops y = apart(4, 1, 4);
            y.loop();
            y.splice(2, 0, 0, 1);
            due("meetAll() with one of one cell behind them", y.meetAll(), -1);
        });
        test("Promise 25: periods with a common divisor", () -> {
            SplicedLoops x = Studios.silentLoops(4, 6, 7);
            x.ticks(1);
            due("meetAll()", x.meetAll(), 83);
            SplicedLoops y = Studios.silentLoops(12, 18, 8, 27);
            y.ticks(1);
            due("meetAll()", y.meetAll(), 215);
        });
        test("Promise 25: each two meet, and all a tick later than now", () -> {
            SplicedLoops x = Studios.silentLoops(6, 10, 15);
            x.ticks(29);
            due("meetAll()", x.meetAll(), 1);
        });
        test("Promise 25: nothing becomes different", () -> Due.asks("meetAll()", 142, Studios::busy, SplicedLoops::meetAll));
    }

    private static void loudest(SplicedLoops x, int n, int greatest, int when) {
        due("loudest(" + n + ", 0)", x.loudest(n, 0), greatest);
        due("loudest(" + n + ", 1)", x.loudest(n, 1), when);
    }

    private static String oneOf(int cells, int cell, int sound) {
        return "0".repeat(cell) + sound + "0".repeat(cells - cell - 1);
    }

    private static void promise26() {
        test("Promise 26: n is 1 to 2000", () -> {
            loudest(Studios.loopsOf("12345"), 1, 2, 1);
            loudest(Studios.loopsOf("12345"), 2000, 5, 4);
            loudest(Studios.loopsOf("12345"), 1999, 5, 4);
        });
        test("Promise 26: n out of its range is refused", () -> {
            for (int n : new int[] {-1, 0, 2001}) {
                Due.refuses("loudest(" + n + ", 0)", Due.ARGUMENT, Studios::busy, x -> x.loudest(n, 0));
                Due.refuses("loudest(" + n + ", 1)", Due.ARGUMENT, Studios::full, x -> x.loudest(n, 1));
            }
        });
        test("Promise 26: what is 0 or 1", () -> {
            for (int what : new int[] {-1, 2}) {
                Due.refuses("loudest(1, " + what + ")", Due.ARGUMENT, Studios::busy, x -> x.loudest(1, what));
                Due.refuses("loudest(2000, " + what + ")", Due.ARGUMENT, Studios::full, x -> x.loudest(2000, what));
            }
        });
        test("Promise 26: the sound of now, behind 0 ticks, is looked at", () -> {
            loudest(Studios.loopsOf("9" + "0".repeat(47)), 1, 9, 0);
            loudest(Studios.loopsOf("21"), 2000, 2, 0);
        });
        test("Promise 26: the sound behind n ticks is looked at, not that behind one more", () -> {
            loudest(Studios.loopsOf(oneOf(48, 47, 9)), 47, 9, 47);
            loudest(Studios.loopsOf(oneOf(48, 47, 9)), 46, 0, 0);
            loudest(Studios.loopsOf("129"), 1, 2, 1);
        });
        test("Promise 26: behind 2000 ticks for the first time", () -> {
            // 2000 % 43 = 22 and 2000 % 47 = 26.
            SplicedLoops x = Studios.loopsOf(oneOf(43, 22, 9), oneOf(47, 26, 9));
            loudest(x, 2000, 18, 2000);
            loudest(x, 1999, 9, 22);
        });
        test("Promise 26: of equal sounds the first time", () -> {
            loudest(Studios.loopsOf("12919"), 2000, 9, 2);
            loudest(Studios.loopsOf("55555"), 2000, 5, 0);
        });
        test("Promise 26: silence is loudest now", () -> {
            loudest(Studios.fresh(), 2000, 0, 0);
            loudest(Studios.fourLoops(), 1, 0, 0);
            SplicedLoops x = Studios.loopsOf("0990");
            x.mute(0, true);
            loudest(x, 2000, 0, 0);
        });
        test("Promise 26: the greatest sound of four loops", () -> {
            SplicedLoops x = Studios.reelsOf("19");
            for (int l = 0; l < 4; l++) {
                x.loop();
                x.splice(l, 0, 0, 2);
            }
            loudest(x, 1, 36, 1);
        });
        test("Promise 26: nothing becomes different", () -> {
            Due.asks("loudest(2000, 0)", 11, Studios::busy, x -> x.loudest(2000, 0));
            Due.asks("loudest(2000, 1)", 17, Studios::busy, x -> x.loudest(2000, 1));
        });
    }

    private static void turned(String first, String second, int want) {
        due("turnedBy(0, 1) of " + first + " and " + second, Studios.loopsOf(first, second).turnedBy(0, 1), want);
    }

    private static void promise27() {
        test("Promise 27: a loop that does not exist", () -> {
            Due.refuses("turnedBy(-1, 0)", Due.INDEX, Studios::busy, x -> x.turnedBy(-1, 0));
            Due.refuses("turnedBy(3, 0)", Due.INDEX, Studios::busy, x -> x.turnedBy(3, 0));
            Due.refuses("turnedBy(0, -1)", Due.INDEX, Studios::busy, x -> x.turnedBy(0, -1));
            Due.refuses("turnedBy(0, 3)", Due.INDEX, Studios::busy, x -> x.turnedBy(0, 3));
            Due.refuses("turnedBy(4, 4)", Due.INDEX, Studios::full, x -> x.turnedBy(4, 4));
            Due.refuses("turnedBy(2, 3) of an empty loop", Due.INDEX, Studios::busy, x -> x.turnedBy(2, 3));
        });
        test("Promise 27: 0 if they are alike", () -> {
            turned("12", "12", 0);
            String all = "123456789".repeat(5) + "123";
            turned(all, all, 0);
            due("turnedBy(0, 0)", Studios.loopsOf("12").turnedBy(0, 0), 0);
        });
        test("Promise 27: all cells but one", () -> {
            turned("1234", "2341", 3);
            turned("2341", "1234", 1);
            turned(oneOf(48, 0, 5), oneOf(48, 47, 5), 47);
            turned(oneOf(48, 47, 5), oneOf(48, 0, 5), 1);
        });
        test("Promise 27: the least k of several", () -> {
            turned("1212", "2121", 1);
            turned("1111", "1111", 0);
            turned("123123", "312312", 1);
        });
        test("Promise 27: NONE if a cell is unlike, the first or the last one too", () -> {
            turned("1222", "3222", -1);
            turned("2221", "2223", -1);
            turned("1122", "1212", -1);
        });
        test("Promise 27: NONE of a loop that is turned back to front", () -> turned("123456", "654321", -1));
        test("Promise 27: NONE with unlike numbers of cells", () -> {
            turned("1212", "121212", -1);
            turned("121212", "1212", -1);
            turned("12", "120", -1);
            turned("0".repeat(48), "0".repeat(47), -1);
        });
        test("Promise 27: loops of one cell", () -> {
            SplicedLoops x = Studios.silentLoops(1, 1);
            due("turnedBy(0, 1)", x.turnedBy(0, 1), 0);
        });
        test("Promise 27: NONE if they are empty, or one is", () -> {
            due("turnedBy(0, 1)", Studios.fourLoops().turnedBy(0, 1), -1);
            due("turnedBy(3, 3)", Studios.fourLoops().turnedBy(3, 3), -1);
            due("turnedBy(2, 0)", Studios.usual().turnedBy(2, 0), -1);
            due("turnedBy(0, 2)", Studios.usual().turnedBy(0, 2), -1);
        });
        test("Promise 27: phases, speeds and whether they are muted are no matter", () -> {
            SplicedLoops x = Studios.loopsOf("1234", "3412");
            x.speed(0, 5, 7);
            x.mute(1, true);
            x.ticks(3);
            due("turnedBy(0, 1)", x.turnedBy(0, 1), 2);
        });
        test("Promise 27: nothing becomes different", () -> Due.asks("turnedBy(0, 0)", 0, Studios::busy, x -> x.turnedBy(0, 0)));
    }

    public static void main(String[] args) {
        promise23();
        promise24();
        promise25();
        promise26();
        promise27();
        Due.close("WouldBeEdgeTests");
    }
}
