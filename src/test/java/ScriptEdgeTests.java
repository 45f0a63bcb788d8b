import java.util.function.Supplier;

/** The edges of the promises 28 and 29, scripts and simulations, each in a test of its own. */
public final class ScriptEdgeTests {
    private static final long TIMES = 6364136223846793005L;
    private static final long MORE = 1442695040888963407L;

    private static void test(String title, Runnable body) {
        Due.test(title, body);
    }

    private static void due(String call, Object got, Object want) {
        Due.due(call, got, want);
    }

    /**
     * Reel 0: 60 cells, 5 000.. 7, quiet at 0, 2 to 58 and 60; reel 1: 12. Loop 0: 12, at the phase 1;
     * loop 1: 40 silent cells at 1 / 9, at the phase 1; loop 2: empty. The sound of now is 2.
     */
    private static SplicedLoops three() {
        SplicedLoops x = Studios.reelsOf("5" + "0".repeat(58) + "7", "12");
        for (int l = 0; l < 3; l++) {
            x.loop();
        }
        x.splice(0, 1, 0, 2);
        x.splice(1, 0, 2, 42);
        x.speed(1, 1, 9);
        x.ticks(1);
        return x;
    }

    private static void one(Supplier<SplicedLoops> maker, String group, int want) {
        due("runScript(1, " + group + ")", maker.get().runScript(1, Long.parseLong(group)), want);
    }

    private static void succeed(Supplier<SplicedLoops> maker, String... groups) {
        for (String group : groups) {
            one(maker, group, -1);
        }
    }

    private static void fail(Supplier<SplicedLoops> maker, String... groups) {
        for (String group : groups) {
            one(maker, group, 0);
        }
    }

    /** The group succeeds, and does not with another digit at any of the places from one to another one. */
    private static void zeros(String group, int from, int to) {
        succeed(ScriptEdgeTests::three, group);
        for (int i = from; i <= to; i++) {
            for (int digit = 1; digit <= 9; digit++) {
                fail(ScriptEdgeTests::three, group.substring(0, i) + digit + group.substring(i + 1));
            }
        }
    }

    private static void two(Supplier<SplicedLoops> maker, String first, String second, int want) {
        long script = Long.parseLong(first + second);
        due("runScript(2, " + first + second + ")", maker.get().runScript(2, script), want);
    }

    private static void scripts() {
        test("Promise 28: n is 1 or 2", () -> {
            due("runScript(1, 1000001)", three().runScript(1, 1000001L), -1);
            due("runScript(2, 10000011000001)", three().runScript(2, 10000011000001L), -1);
            for (int n : new int[] {-1, 0, 3}) {
                Due.refuses("runScript(" + n + ", 1000001)", Due.ARGUMENT, Studios::busy, x -> x.runScript(n, 1000001));
                Due.refuses("runScript(" + n + ", 0)", Due.ARGUMENT, Studios::full, x -> x.runScript(n, 0));
            }
        });
        test("Promise 28: a negative script is refused", () -> {
            for (int n = 1; n <= 2; n++) {
                int count = n;
                Due.refuses("runScript(" + n + ", -1)", Due.ARGUMENT, Studios::busy, x -> x.runScript(count, -1));
                Due.refuses("runScript(" + n + ", -1000001)", Due.ARGUMENT, Studios::busy, x -> x.runScript(count, -1000001));
                Due.refuses("runScript(" + n + ", least)", Due.ARGUMENT, Studios::full,
                    x -> x.runScript(count, Long.MIN_VALUE));
            }
        });
        test("Promise 28: one command has at most 7 digits", () -> {
            due("runScript(1, 9999999)", three().runScript(1, 9999999), 0);
            Due.refuses("runScript(1, 10000000)", Due.ARGUMENT, Studios::busy, x -> x.runScript(1, 10000000));
            Due.refuses("runScript(1, 10000011000001)", Due.ARGUMENT, Studios::full, x -> x.runScript(1, 10000011000001L));
            Due.refuses("runScript(1, 2 to the power of 32 and 1000001)", Due.ARGUMENT, Studios::busy,
                x -> x.runScript(1, (1L << 32) + 1000001));
        });
        test("Promise 28: two commands have at most 14 digits", () -> {
            due("runScript(2, 99999999999999)", three().runScript(2, 99999999999999L), 0);
            Due.refuses("runScript(2, 100000000000000)", Due.ARGUMENT, Studios::busy, x -> x.runScript(2, 100000000000000L));
            Due.refuses("runScript(2, greatest)", Due.ARGUMENT, Studios::full, x -> x.runScript(2, Long.MAX_VALUE));
        });
        test("Promise 28: fewer digits have zeros before them", () -> {
            due("runScript(1, 0)", three().runScript(1, 0), 0);
            due("runScript(2, 0)", three().runScript(2, 0), 0);
            due("runScript(2, 1000001) begins with 0000000", three().runScript(2, 1000001), 0);
            due("runScript(1, 999999)", three().runScript(1, 999999), 0);
        });
        test("Promise 28: the index of the first one that fails, or NONE", () -> {
            two(ScriptEdgeTests::three, "1000001", "1000999", -1);
            two(ScriptEdgeTests::three, "1000000", "1000999", 0);
            two(ScriptEdgeTests::three, "1000001", "1000000", 1);
            two(ScriptEdgeTests::three, "1000000", "1000000", 0);
            two(ScriptEdgeTests::three, "1000001", "0000000", 1);
        });
        test("Promise 28: any other group fails", () -> {
            fail(ScriptEdgeTests::three, "0000000", "0000001", "0000999", "0200002", "0999999", "0100001");
        });
    }

    private static void actions() {
        test("Promise 28: 1: ticks(001) to ticks(999)", () -> {
            succeed(ScriptEdgeTests::three, "1000001", "1000999", "1000010", "1000100");
            fail(ScriptEdgeTests::three, "1000000");
        });
        test("Promise 28: 1: only with its zeros", () -> zeros("1000001", 1, 3));
        test("Promise 28: 2: a piece that is spliced", () -> {
            succeed(ScriptEdgeTests::three, "2200002", "2205860", "2200048", "2201260", "2210002", "2100008");
        });
        test("Promise 28: 2: a piece that is not spliced, for each reason", () -> {
            fail(ScriptEdgeTests::three, "2200505", "2200504", "2206060", "2200000");
            fail(ScriptEdgeTests::three, "2200102", "2205960", "2210102");
            fail(ScriptEdgeTests::three, "2200001", "2200059", "2210001");
            fail(ScriptEdgeTests::three, "2200049", "2200060", "2101160", "2100211");
            succeed(ScriptEdgeTests::three, "2100210");
            fail(Studios::sixPieces, "2000002");
            succeed(() -> {
                SplicedLoops x = Studios.sixPieces();
                x.unsplice(0);
                return x;
            }, "2000002");
        });
        test("Promise 28: 2: a loop, a reel or a place that does not exist", () -> {
            fail(ScriptEdgeTests::three, "2300002", "2900002", "2220002", "2290002", "2200061", "2206160", "2200099", "2209902",
                "2210003", "2210302");
        });
        test("Promise 28: 3: speeds of 1 / 1 to 9 / 9, of an empty loop too", () -> {
            succeed(ScriptEdgeTests::three, "3011000", "3099000", "3119000", "3291000");
            fail(ScriptEdgeTests::three, "3001000", "3010000", "3000000", "3200000");
            fail(ScriptEdgeTests::three, "3311000", "3911000");
        });
        test("Promise 28: 3: only with its zeros", () -> zeros("3011000", 4, 6));
        test("Promise 28: 4: mute with 0 or 1", () -> {
            succeed(ScriptEdgeTests::three, "4000000", "4000001", "4200000", "4200001");
            fail(ScriptEdgeTests::three, "4000002", "4000009", "4300000", "4300001", "4900001");
        });
        test("Promise 28: 4: only with its zeros", () -> {
            zeros("4000000", 2, 5);
            zeros("4000001", 2, 5);
        });
        test("Promise 28: 5: record of 01 to all cells", () -> {
            succeed(ScriptEdgeTests::three, "5000001", "5000060", "5100001", "5100002");
            fail(ScriptEdgeTests::three, "5000000", "5000061", "5000099", "5100000", "5100003", "5200001", "5900001");
        });
        test("Promise 28: 5: only with its zeros", () -> zeros("5000001", 2, 4));
    }

    private static void questions() {
        test("Promise 28: 6: the sound of now is at least nn", () -> {
            succeed(ScriptEdgeTests::three, "6000000", "6000001", "6000002");
            fail(ScriptEdgeTests::three, "6000003", "6000012", "6000099");
            succeed(Studios::fresh, "6000000");
            fail(Studios::fresh, "6000001");
            Supplier<SplicedLoops> loud = () -> {
                SplicedLoops x = Studios.reelsOf("99");
                for (int l = 0; l < 4; l++) {
                    x.loop();
                    x.splice(l, 0, 0, 2);
                }
                return x;
            };
            succeed(loud, "6000035", "6000036");
            fail(loud, "6000037");
        });
        test("Promise 28: 6: only with its zeros", () -> {
            zeros("6000000", 1, 4);
            zeros("6000002", 1, 4);
        });
        test("Promise 28: 7: the phase of a loop is nnn", () -> {
            succeed(ScriptEdgeTests::three, "7000001", "7100001");
            fail(ScriptEdgeTests::three, "7000000", "7000002", "7100000", "7100002", "7100101");
            Supplier<SplicedLoops> last = () -> {
                SplicedLoops x = Studios.silentLoops(48);
                x.speed(0, 1, 9);
                x.ticks(431);
                return x;
            };
            succeed(last, "7000431");
            fail(last, "7000430", "7000432", "7000000", "7000999");
        });
        test("Promise 28: 7: the phase of an empty loop is 000", () -> {
            succeed(ScriptEdgeTests::three, "7200000");
            fail(ScriptEdgeTests::three, "7200001");
        });
        test("Promise 28: 7: a loop that does not exist", () -> {
            fail(ScriptEdgeTests::three, "7300000", "7400000", "7900000", "7300001");
            fail(Studios::fresh, "7000000");
        });
        test("Promise 28: 7: only with its zeros", () -> zeros("7000001", 2, 3));
        test("Promise 28: 8: two loops meet if both are at the phase 0", () -> {
            Supplier<SplicedLoops> now = () -> Studios.silentLoops(2, 3, 4, 5);
            succeed(now, "8000000", "8010000", "8100000", "8230000", "8330000");
            Supplier<SplicedLoops> half = () -> {
                SplicedLoops x = Studios.silentLoops(2, 3, 4, 5);
                x.ticks(4);
                return x;
            };
            succeed(half, "8000000", "8020000", "8200000", "8220000");
            fail(half, "8010000", "8100000", "8110000", "8230000", "8320000");
        });
        test("Promise 28: 8: an empty loop meets none", () -> {
            Supplier<SplicedLoops> now = () -> {
                SplicedLoops x = Studios.silentLoops(2);
                x.loop();
                return x;
            };
            succeed(now, "8000000");
            fail(now, "8010000", "8100000", "8110000");
        });
        test("Promise 28: 8: a loop that does not exist", () -> {
            Supplier<SplicedLoops> now = () -> Studios.silentLoops(2, 3, 4);
            fail(now, "8030000", "8300000", "8330000", "8090000", "8900000");
            fail(Studios::fresh, "8000000");
        });
        test("Promise 28: 8: muted loops meet too", () -> succeed(() -> {
            SplicedLoops x = Studios.silentLoops(2, 3);
            x.mute(0, true);
            return x;
        }, "8010000", "8100000"));
        test("Promise 28: 8: only with its zeros", () -> {
            for (int i = 3; i <= 6; i++) {
                for (int digit = 1; digit <= 9; digit++) {
                    fail(() -> Studios.silentLoops(2, 3), "8010000".substring(0, i) + digit + "8010000".substring(i + 1));
                }
            }
        });
        test("Promise 28: 9: the sound of a cell, the first one or the last one", () -> {
            succeed(ScriptEdgeTests::three, "9000005", "9000010", "9000580", "9000597", "9100001", "9100012");
            fail(ScriptEdgeTests::three, "9000000", "9000004", "9000006", "9000596", "9000598", "9100011", "9000011");
        });
        test("Promise 28: 9: a reel or a cell that does not exist", () -> {
            fail(ScriptEdgeTests::three, "9000600", "9000990", "9100020", "9200000", "9900000");
            fail(Studios::fresh, "9000000");
        });
        test("Promise 28: 9: only with its zeros", () -> {
            zeros("9000005", 2, 3);
            zeros("9000010", 2, 3);
        });
    }

    private static void copies() {
        test("Promise 28: the second command sees what the first one did", () -> {
            two(ScriptEdgeTests::three, "1000358", "7100359", -1);
            two(ScriptEdgeTests::three, "1000359", "7100000", -1);
            two(ScriptEdgeTests::three, "1000359", "8010000", -1);
            two(ScriptEdgeTests::three, "3099000", "7000009", -1);
            two(ScriptEdgeTests::three, "4000001", "6000001", 1);
            two(ScriptEdgeTests::three, "4000001", "6000000", -1);
            two(ScriptEdgeTests::three, "5000060", "9000001", 1);
            two(ScriptEdgeTests::three, "5000060", "9000002", -1);
            two(ScriptEdgeTests::three, "5000060", "9000591", -1);
            two(ScriptEdgeTests::three, "5000060", "7000001", -1);
            two(ScriptEdgeTests::three, "2000002", "7000000", -1);
            two(ScriptEdgeTests::three, "2200048", "2200003", 1);
            two(ScriptEdgeTests::three, "2200048", "8220000", -1);
        });
        test("Promise 28: nothing becomes different", () -> {
            for (String group : new String[] {"1000999", "2200002", "3099000", "4000001", "5000019", "6000000", "7200000"}) {
                long script = Long.parseLong(group);
                Due.asks("runScript(1, " + group + ")", -1, Studios::busy, x -> x.runScript(1, script));
            }
            Due.asks("runScript(1, a piece that is not spliced)", 0, Studios::busy, x -> x.runScript(1, 2000000));
            Due.asks("runScript(2, 10009995000020)", -1, Studios::full, x -> x.runScript(2, 10009995000020L));
            Due.asks("runScript(2, 40000014200001)", -1, Studios::young, x -> x.runScript(2, 40000014200001L));
        });
    }

    /** The seed whose first turn has this r. */
    private static long seedOf(int r, long low) {
        long inverse = 1;
        for (int i = 0; i < 7; i++) {
            inverse *= 2 - TIMES * inverse;
        }
        return (((long) r << 33 | low) - MORE) * inverse;
    }

    private static int firstOf(long seed) {
        return (int) (seed * TIMES + MORE >>> 33);
    }

    private static void turn(Supplier<SplicedLoops> maker, int kind, int q, int want) {
        long seed = seedOf(16 * q + kind, 0);
        due("the first r", firstOf(seed), 16 * q + kind);
        due("simulate(" + seed + ", 1): kind " + kind + ", q " + q, maker.get().simulate(seed, 1), want);
    }

    private static void simulations() {
        test("Promise 29: m is 1 to 60", () -> {
            due("simulate(7, 1)", Studios.usual().simulate(7, 1), Turns.byTurns(Studios.usual(), 7, 1));
            due("simulate(7, 60)", Studios.usual().simulate(7, 60), Turns.byTurns(Studios.usual(), 7, 60));
            for (int m : new int[] {-1, 0, 61}) {
                Due.refuses("simulate(7, " + m + ")", Due.ARGUMENT, Studios::busy, x -> x.simulate(7, m));
                Due.refuses("simulate(0, " + m + ")", Due.ARGUMENT, Studios::full, x -> x.simulate(0, m));
            }
        });
        test("Promise 29: the seed is any long", () -> {
            for (long seed : new long[] {0, 1, -1, Long.MIN_VALUE, Long.MIN_VALUE + 1, Long.MAX_VALUE, 1L << 33, 1L << 32}) {
                for (int m = 1; m <= 60; m++) {
                    due("simulate(" + seed + ", " + m + ")", Studios.full().simulate(seed, m), Turns.byTurns(Studios.full(), seed, m));
                }
            }
        });
        test("Promise 29: r is 0 to 2147483647", () -> {
            turn(() -> Studios.silentLoops(48), 0, 0, 48000);
            turn(() -> Studios.silentLoops(48), 15, 134217727, 48000);
            // q % 50 is 27: 28 ticks.
            turn(() -> Studios.loopsOf("0".repeat(28) + "6" + "0".repeat(19)), 15, 134217727, 48006);
        });
        test("Promise 29: no cell and no sound", () -> due("simulate(.., 1)", Studios.fresh().simulate(seedOf(12, 0), 1), 0));
        test("Promise 29: 192 cells and the sound 36", () -> {
            SplicedLoops x = Studios.fresh();
            x.reel(48);
            x.paint(0, 0, 47, 9);
            for (int l = 0; l < 4; l++) {
                x.loop();
                x.splice(l, 0, 0, 48);
            }
            due("simulate", x.simulate(seedOf(12, 0), 1), 192036);
        });
        test("Promise 29: what would throw an exception is left out", () -> {
            for (int kind = 2; kind <= 11; kind++) {
                turn(Studios::fresh, kind, 12345, 0);
            }
            turn(Studios::full, 0, 5, Studios.full().about(6) * 1000 + Studios.full().about(3));
            turn(Studios::full, 1, 5, Studios.full().about(6) * 1000 + Studios.full().about(3));
            turn(() -> Studios.loopsOf("12"), 10, 9, 2001);
        });
        test("Promise 29: nothing becomes different", () -> {
            int busy = Turns.byTurns(Studios.busy(), 99, 60);
            Due.asks("simulate(99, 60)", busy, Studios::busy, x -> x.simulate(99, 60));
            int full = Turns.byTurns(Studios.full(), -5, 60);
            Due.asks("simulate(-5, 60)", full, Studios::full, x -> x.simulate(-5, 60));
            int young = Turns.byTurns(Studios.young(), 3, 60);
            Due.asks("simulate(3, 60)", young, Studios::young, x -> x.simulate(3, 60));
        });
        turns();
    }

    /** A loop of 48 unlike cells at 1 / 2, and its reel. */
    private static SplicedLoops slow() {
        SplicedLoops x = Studios.loopsOf("123456789".repeat(5) + "123");
        x.speed(0, 1, 2);
        return x;
    }

    /** A reel of 2 silent cells, one of 55, and so many empty loops. */
    private static SplicedLoops twoReelsAnd(int loops) {
        SplicedLoops x = Studios.reelsOf("00", "55");
        for (int l = 0; l < loops; l++) {
            x.loop();
        }
        return x;
    }

    private static void turns() {
        test("Promise 29: 5 to 8: splice of 1 to 20 cells, from the places 0 to 60", () -> {
            for (int kind = 5; kind <= 8; kind++) {
                turn(() -> Studios.silentReel(60), kind, 0, 1000);
                // q = 19524: splice(0, 0, 0, 20).
                turn(() -> Studios.silentReel(60), kind, 19524, 20000);
                turn(() -> Studios.silentReel(19), kind, 19524, 0);
                // q = 948: splice(0, 0, 59, 60); q = 960: splice(0, 0, 60, 61).
                turn(() -> Studios.silentReel(60), kind, 948, 1000);
                turn(() -> Studios.silentReel(59), kind, 948, 0);
                turn(() -> Studios.silentReel(60), kind, 960, 0);
                // q = 1960 and 1963: splice of loop 0 and of loop 3, reel 1, from 0 to 2.
                turn(() -> twoReelsAnd(1), kind, 1960, 2005);
                turn(() -> twoReelsAnd(4), kind, 1963, 2005);
                turn(() -> twoReelsAnd(3), kind, 1963, 0);
            }
        });
        test("Promise 29: 10: mute if q / 8 % 2 is 0, of q / 4 % 2", () -> {
            Supplier<SplicedLoops> maker = () -> Studios.loopsOf("12", "34");
            turn(maker, 10, 0, 4004);
            turn(maker, 10, 4, 4003);
            turn(maker, 10, 5, 4001);
            turn(maker, 10, 16, 4004);
            turn(maker, 10, 20, 4003);
            turn(() -> {
                SplicedLoops x = Studios.loopsOf("12", "34");
                x.mute(0, true);
                return x;
            }, 10, 0, 4004);
        });
        test("Promise 29: 10: unsplice if q / 8 % 2 is 1", () -> {
            Supplier<SplicedLoops> maker = () -> Studios.loopsOf("12", "345");
            turn(maker, 10, 8, 3003);
            turn(maker, 10, 9, 2001);
            turn(maker, 10, 12, 3003);
            turn(maker, 10, 13, 2001);
            turn(maker, 10, 24, 3003);
            turn(Studios::fourLoops, 10, 11, 0);
        });
        test("Promise 29: 11: record of 1 to 40 cells", () -> {
            // q / 4 % 40 is 39 for 156 and 0 for 160; behind n ticks the head is at the cell n / 2.
            turn(ScriptEdgeTests::slow, 11, 0, 48001);
            turn(ScriptEdgeTests::slow, 11, 156, 48003);
            turn(ScriptEdgeTests::slow, 11, 162, 48001);
            turn(ScriptEdgeTests::slow, 11, 153, 48002);
            turn(() -> Studios.loopsOf("12"), 11, 9, 2001);
            turn(() -> Studios.loopsOf("123"), 11, 9, 3001);
            turn(() -> Studios.loopsOf("123"), 11, 6, 3003);
        });
        test("Promise 29: 12 to 15: 1 to 50 ticks", () -> {
            for (int kind = 12; kind <= 15; kind++) {
                turn(ScriptEdgeTests::slow, kind, 0, 48001);
                turn(ScriptEdgeTests::slow, kind, 1, 48002);
                turn(ScriptEdgeTests::slow, kind, 48, 48007);
                turn(ScriptEdgeTests::slow, kind, 49, 48008);
                turn(ScriptEdgeTests::slow, kind, 50, 48001);
            }
        });
        test("Promise 29: each kind of turn, and what others do behind it", () -> {
            for (int kind = 0; kind < 16; kind++) {
                for (int i = 0; i < 60; i++) {
                    int r = 16 * (i < 30 ? i : i * 2233327 % 134217728) + kind;
                    long seed = seedOf(r, i * 123457L);
                    due("simulate(" + seed + ", 60)", Studios.young().simulate(seed, 60), Turns.byTurns(Studios.young(), seed, 60));
                    due("simulate(" + seed + ", 9)", Studios.full().simulate(seed, 9), Turns.byTurns(Studios.full(), seed, 9));
                }
            }
        });
    }

    public static void main(String[] args) {
        scripts();
        actions();
        questions();
        copies();
        simulations();
        Due.close("ScriptEdgeTests");
    }
}
