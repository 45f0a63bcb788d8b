/** The edges of the promises 30 and 31, the save slots, each in a test of its own. */
public final class SlotEdgeTests {
    private static void test(String title, Runnable body) {
        Due.test(title, body);
    }

    private static void due(String call, Object got, Object want) {
        Due.due(call, got, want);
    }

    private static void promise30() {
        test("Promise 30: the slots are 0 and 1", () -> {
            SplicedLoops x = Studios.fresh();
            due("save(0)", x.save(0), 0);
            due("save(1)", x.save(1), 0);
        });
        test("Promise 30: a slot that is not there is refused", () -> {
            for (int slot : new int[] {-1, 2}) {
                Due.refuses("save(" + slot + ")", Due.INDEX, Studios::busy, x -> x.save(slot));
                Due.refuses("save(" + slot + ")", Due.INDEX, Studios::full, x -> x.save(slot));
                Due.refuses("save(" + slot + ")", Due.INDEX, Studios::fresh, x -> x.save(slot));
            }
        });
        test("Promise 30: it returns the time, 0 or more", () -> {
            SplicedLoops x = Studios.fresh();
            due("save(0)", x.save(0), 0);
            x.ticks(999);
            due("save(0)", x.save(0), 999);
            x.ticks(1);
            due("save(1)", x.save(1), 1000);
        });
        test("Promise 30: each slot keeps its own state", () -> {
            SplicedLoops x = Studios.fresh();
            x.save(0);
            x.ticks(3);
            x.save(1);
            x.ticks(4);
            due("restore(0)", x.restore(0), 0);
            due("restore(1)", x.restore(1), 3);
            due("restore(0)", x.restore(0), 0);
        });
        test("Promise 30: a slot that is full is saved over", () -> {
            SplicedLoops x = Studios.busy();
            x.ticks(100);
            String saved = Due.stateOf(x);
            int time = x.save(0);
            x.ticks(1);
            due("restore(0)", x.restore(0), time);
            due("the state", Due.stateOf(x), saved);
        });
        test("Promise 30: the state and the remembered states stay", () -> {
            SplicedLoops x = Studios.full();
            x.save(1);
            due("the state", Due.stateOf(x), Due.stateOf(Studios.full()));
            SplicedLoops y = Studios.full();
            for (int left = 11; left >= 0; left--) {
                due("undo()", x.undo(), left);
                y.undo();
                due("the time", x.about(2), y.about(2));
            }
        });
        test("Promise 30: later actions do not change what is saved", () -> {
            SplicedLoops x = Studios.usual();
            x.ticks(2);
            x.save(0);
            String saved = Due.stateOf(x);
            x.paint(0, 0, 19, 9);
            x.splice(0, 0, 0, 20);
            x.unsplice(1);
            x.unsplice(0);
            x.unsplice(0);
            x.speed(0, 9, 9);
            x.mute(2, true);
            x.record(1, 9);
            x.restore(0);
            due("the state", Due.stateOf(x), saved);
        });
    }

    private static void promise31() {
        test("Promise 31: a slot that is not there is refused", () -> {
            for (int slot : new int[] {-1, 2}) {
                Due.refuses("restore(" + slot + ")", Due.INDEX, Studios::busy, x -> x.restore(slot));
                Due.refuses("restore(" + slot + ")", Due.INDEX, Studios::full, x -> x.restore(slot));
                Due.refuses("restore(" + slot + ")", Due.INDEX, Studios::fresh, x -> x.restore(slot));
            }
        });
        test("Promise 31: nothing has been saved in it", () -> {
            Due.refuses("restore(0)", Due.STATE, Studios::fresh, x -> x.restore(0));
            Due.refuses("restore(1)", Due.STATE, Studios::fresh, x -> x.restore(1));
            Due.refuses("restore(1)", Due.STATE, Studios::busy, x -> x.restore(1));
            Due.refuses("restore(0)", Due.STATE, Studios::young, x -> x.restore(0));
        });
        test("Promise 31: nothing has been saved in it since the last load", () -> {
            for (int slot = 0; slot < 2; slot++) {
                int s = slot;
                Due.refuses("restore(" + slot + ")", Due.STATE, () -> {
                    SplicedLoops x = Studios.full();
                    x.load();
                    return x;
                }, x -> x.restore(s));
            }
        });
        test("Promise 31: one slot has been saved since the last load", () -> {
            SplicedLoops x = Studios.full();
            x.load();
            x.save(1);
            Due.fails("restore(0)", Due.STATE, () -> x.restore(0));
            due("restore(1)", x.restore(1), x.about(2));
        });
        test("Promise 31: a load that throws empties no slot", () -> {
            SplicedLoops x = Studios.young();
            Due.fails("load()", Due.STATE, x::load);
            due("restore(1)", x.restore(1), 0);
        });
        test("Promise 31: the state becomes that of the slot, with fewer reels and loops too", () -> {
            SplicedLoops x = Studios.fresh();
            x.save(0);
            x.reel(60);
            x.loop();
            x.splice(0, 0, 0, 48);
            x.splice(0, 0, 0, 48);
            x.ticks(3);
            due("restore(0)", x.restore(0), 0);
            due("the state", Due.stateOf(x), "0 0 0 0 0 0 0 0 ");
        });
        test("Promise 31: with more reels and loops too", () -> {
            SplicedLoops x = Studios.fresh();
            x.ticks(1);
            x.reel(60);
            x.paint(0, 0, 59, 9);
            x.loop();
            x.save(0);
            x.splice(0, 0, 0, 0);
            String want = Due.stateOf(Studios.loaded("Zt001r60p000599l"));
            x.undo();
            x.undo();
            x.undo();
            due("the reels", x.about(0), 1);
            due("restore(0)", x.restore(0), 1);
            due("the state", Due.stateOf(x), want);
        });
        test("Promise 31: all remembered states are forgotten", () -> {
            for (int slot = 0; slot < 2; slot++) {
                SplicedLoops x = Studios.full();
                x.restore(slot);
                Due.fails("undo()", Due.STATE, x::undo);
            }
        });
        test("Promise 31: an action behind it is remembered", () -> {
            SplicedLoops x = Studios.full();
            int time = x.restore(1);
            x.ticks(1);
            due("undo()", x.undo() + " " + x.about(2), "0 " + time);
        });
        test("Promise 31: the slot keeps it, also behind other actions", () -> {
            SplicedLoops x = Studios.busy();
            x.restore(0);
            String saved = Due.stateOf(x);
            x.paint(0, 0, 19, 9);
            x.unsplice(0);
            x.ticks(5);
            x.restore(0);
            due("the state", Due.stateOf(x), saved);
            x.restore(0);
            due("the state", Due.stateOf(x), saved);
        });
        test("Promise 31: the other slot and the text stay", () -> {
            SplicedLoops x = Studios.full();
            x.restore(0);
            due("restore(1)", x.restore(1), 0);
            due("clearText()", x.clearText(), 120);
        });
        test("Promise 31: it returns the time then", () -> {
            SplicedLoops x = Studios.full();
            due("restore(0)", x.restore(0) + " " + x.about(2), "5 5");
            due("restore(1)", x.restore(1) + " " + x.about(2), "0 0");
        });
    }

    public static void main(String[] args) {
        promise30();
        promise31();
        Due.close("SlotEdgeTests");
    }
}
