import java.util.function.Consumer;
import java.util.function.Supplier;

/** Each promise of the document by its number: ordinary inputs, the edges that it names, wrong inputs. */
public final class PromiseTests {
    private static final Class<?> INDEX = Due.INDEX;
    private static final Class<?> ARGUMENT = Due.ARGUMENT;
    private static final Class<?> STATE = Due.STATE;

    private static void due(String call, Object got, Object want) {
        Due.due(call, got, want);
    }

    private static void refuses(String what, Class<?> wanted, Supplier<SplicedLoops> maker, Consumer<SplicedLoops> call) {
        Due.refuses(what, wanted, maker, call);
    }

    private static void promise1() {
        SplicedLoops x = Studios.fresh();
        for (int what = 0; what < 8; what++) {
            due("about(" + what + ") of a new object", x.about(what), 0);
        }
        due("errorPosition() of a new object", x.errorPosition(), 0);
        due("clearText() of a new object", x.clearText(), 0);
        refuses("reelOf(0, 0) of a new object", INDEX, Studios::fresh, y -> y.reelOf(0, 0));
        refuses("loopOf(0, 0) of a new object", INDEX, Studios::fresh, y -> y.loopOf(0, 0));
        refuses("undo() of a new object", STATE, Studios::fresh, SplicedLoops::undo);
        refuses("restore(0) of a new object", STATE, Studios::fresh, y -> y.restore(0));
        refuses("restore(1) of a new object", STATE, Studios::fresh, y -> y.restore(1));
        due("NONE", SplicedLoops.NONE, -1);
    }

    private static SplicedLoops fullText() {
        SplicedLoops x = new SplicedLoops();
        for (int i = 0; i < 120; i++) {
            x.append(i == 0 ? 'Z' : 'l');
        }
        return x;
    }

    private static void promise2() {
        SplicedLoops x = Studios.fresh();
        due("append(0)", x.append(0), 1);
        due("append(255)", x.append(255), 2);
        refuses("append(-1)", ARGUMENT, Studios::busy, y -> y.append(-1));
        refuses("append(256)", ARGUMENT, Studios::busy, y -> y.append(256));
        refuses("append(90) to a full text", STATE, PromiseTests::fullText, y -> y.append(90));
        refuses("append(256) to a full text", ARGUMENT, PromiseTests::fullText, y -> y.append(256));
        SplicedLoops full = fullText();
        due("errorPosition() of the full text", full.errorPosition(), -1);
        due("load() of the full text", full.load(), 115);
        due("about(1) behind it", full.about(1), 4);
        due("clearText() of the full text", full.clearText(), 120);
        due("append(90) behind it", full.append(90), 1);
        due("an append is no action", Due.answer(full::undo), "throws.IllegalStateException");
    }

    private static void promise3() {
        SplicedLoops x = Studios.withText("Zlll");
        due("clearText()", x.clearText(), 4);
        due("clearText() again", x.clearText(), 0);
        due("errorPosition() behind it", x.errorPosition(), 0);
        Due.write(x, "Zl");
        due("load() of the new text alone", x.load(), 0);
        due("about(1) behind it", x.about(1), 1);
    }

    private static void error(String text, int want) {
        due("errorPosition() of \"" + text + "\"", Studios.withText(text).errorPosition(), want);
    }

    private static void promise4() {
        for (String good : new String[] {"Z", "Zl", "Zr02", "Zr60", "Zr19", "Zp000000", "Zp260609", "Zc000000", "Zc326060",
            "Zv011", "Zv399", "Zm00", "Zm31", "Zt001", "Zt010", "Zt100", "Zt999", "Zw001", "Zw260", "Zlr05p000000lv011m01t007w001c000005"}) {
            error(good, -1);
        }
        error("", 0);
        error("z", 0);
        error("lZ", 0);
        error(" Z", 0);
        error("ZZ", 1);
        error("Z ", 1);
        error("Zl ", 2);
        error("Zx", 1);
        error("Zu0", 1);
        error("ZL", 1);
        error("Z" + (char) 0, 1);
        error("Z" + (char) 255, 1);
        error("Zr", 2);
        error("Zr0", 3);
        error("Zr00", 3);
        error("Zr01", 3);
        error("Zr61", 3);
        error("Zr7", 2);
        error("Zr6", 3);
        error("Zrl", 2);
        error("Zr/", 2);
        error("Zr:", 2);
        error("Zp3", 2);
        error("Zp07", 3);
        error("Zp061", 4);
        error("Zp00007", 7);
        error("Zp00070", 5);
        error("Zp000610", 6);
        error("Zp00000x", 7);
        error("Zp000000l0", 9);
        error("Zc4", 2);
        error("Zc03", 3);
        error("Zc007", 4);
        error("Zc0061", 5);
        error("Zc00007", 6);
        error("Zc000061", 7);
        error("Zc00000", 7);
        error("Zv4", 2);
        error("Zv00", 3);
        error("Zv010", 4);
        error("Zv01", 4);
        error("Zm4", 2);
        error("Zm02", 3);
        error("Zt000", 4);
        error("Zt00", 4);
        error("Zta", 2);
        error("Zt0:0", 3);
        error("Zt1/0", 3);
        error("Zw3", 2);
        error("Zw000", 4);
        error("Zw061", 4);
        error("Zw07", 3);
    }

    private static void promise5() {
        SplicedLoops x = Studios.busy();
        x.splice(0, 0, 0, 0);
        x.save(1);
        x.clearText();
        Due.write(x, "Zr16p002045p009103llc000007c100713c000716v123m01t012w012c100012c000305m00t040l");
        due("load()", x.load(), 2);
        due("load(): the state behind it", Due.stateOf(x), "1 3 64 0 2 0 22 0 | reel 3 3 3 0 0 0 0 0 0 3 3 3 0 0 0 0"
            + "| loop 16 1 1 0 0 0 0 16 2: 0 0 5 5 5 0 0 0 0 3 3 0 0 0 0 0"
            + "| loop 6 2 3 2 0 0 0 9 1: 0 0 3 3 0 0| loop 0 1 1 0 -1 0 0 -1 0:");
        due("load(): no state is remembered", Due.answer(x::undo), "throws.IllegalStateException");
        due("load(): slot 0 is empty", Due.answer(() -> x.restore(0)), "throws.IllegalStateException");
        due("load(): slot 1 is empty", Due.answer(() -> x.restore(1)), "throws.IllegalStateException");
        due("load(): the text is kept", x.clearText(), 78);
        SplicedLoops all = Studios.withText("Zr10p004045lc000002v023m01t007w004");
        due("load() with each command", all.load(), 0);
        due("load() with each command: the state", Due.stateOf(all),
            "1 1 11 0 1 1 2 0 | reel 0 0 0 0 5 0 0 0 0 0| loop 2 2 3 4 1 0 1 3 1: 0 0");
        all.ticks(5);
        due("load() again makes all as in a new object", all.load() + " " + all.about(2) + " " + all.about(0), "0 11 1");
        SplicedLoops left = Studios.withText("Zr20r20r20r20llllll" + "p000605p010055p009109" + "c000005c000500v099m31t999w030w021w020");
        due("load() leaves out what would throw and what cannot be cut", left.load(), 8);
        due("the time behind it", left.about(2), 1019);
        SplicedLoops bad = Studios.busy();
        bad.append('x');
        due("load() of no studio", Due.answer(bad::load), "throws.IllegalStateException");
        refuses("load() of an empty text", STATE, Studios::usual, SplicedLoops::load);
        refuses("load() of no studio", STATE, () -> {
            SplicedLoops y = Studios.busy();
            y.append('c');
            return y;
        }, SplicedLoops::load);
        SplicedLoops muted = Studios.withText("Zr09p001017lc000009t001m01");
        muted.load();
        due("mute in a text", muted.about(3) + " " + muted.about(5), "0 1");
        SplicedLoops heard = Studios.withText("Zr09p001017lc000009t001m01m00");
        heard.load();
        due("mute with 0 in a text", heard.about(3) + " " + heard.about(5), "7 0");
    }

    private static void promise6() {
        SplicedLoops x = Studios.usual();
        x.splice(0, 0, 0, 4);
        x.splice(2, 0, 8, 8);
        x.mute(2, true);
        x.mute(0, true);
        x.ticks(20);
        due("about(0)", x.about(0), 2);
        due("about(1)", x.about(1), 3);
        due("about(2)", x.about(2), 20);
        due("about(3)", x.about(3), 7);
        due("about(4)", x.about(4), 2);
        due("about(5)", x.about(5), 5);
        due("about(6)", x.about(6), 25);
        due("about(7)", x.about(7), 2);
        x.mute(0, false);
        due("about(3) with both loops", x.about(3), 11);
        x.undo();
        due("about(3) behind undo()", x.about(3), 7);
        refuses("about(-1)", ARGUMENT, Studios::busy, y -> y.about(-1));
        refuses("about(8)", ARGUMENT, Studios::busy, y -> y.about(8));
    }

    private static void promise7() {
        SplicedLoops x = Studios.usual();
        int[][] want = {{20, 4, 3, 31, 3}, {9, 2, 1, 14, 6}};
        for (int r = 0; r < 2; r++) {
            for (int what = 0; what < 5; what++) {
                due("reelOf(" + r + ", " + what + ")", x.reelOf(r, what), want[r][what]);
            }
        }
        SplicedLoops full = new SplicedLoops();
        full.reel(2);
        due("reelOf(0, 4) of a silent reel", full.reelOf(0, 4), 2);
        due("reelOf(0, 1) of a silent reel", full.reelOf(0, 1), 1);
        due("reelOf(0, 2) of a silent reel", full.reelOf(0, 2), 0);
        full.paint(0, 0, 1, 9);
        due("reelOf(0, 4) without a silence", full.reelOf(0, 4), 0);
        due("reelOf(0, 3) without a silence", full.reelOf(0, 3), 18);
        due("reelOf(0, 1) without a silence", full.reelOf(0, 1), 0);
        due("reelOf(0, 2) without a silence", full.reelOf(0, 2), 1);
        refuses("reelOf(-1, 0)", INDEX, Studios::busy, y -> y.reelOf(-1, 0));
        refuses("reelOf(2, 9)", INDEX, Studios::busy, y -> y.reelOf(2, 9));
        refuses("reelOf(0, -1)", ARGUMENT, Studios::busy, y -> y.reelOf(0, -1));
        refuses("reelOf(0, 5)", ARGUMENT, Studios::busy, y -> y.reelOf(0, 5));
    }

    private static void promise8() {
        SplicedLoops x = Studios.usual();
        due("sound(0, 2)", x.sound(0, 2), 0);
        due("sound(0, 3)", x.sound(0, 3), 4);
        due("sound(0, 10)", x.sound(0, 10), 9);
        due("sound(0, 19)", x.sound(0, 19), 0);
        due("sound(1, 2)", x.sound(1, 2), 7);
        refuses("sound(2, 0)", INDEX, Studios::busy, y -> y.sound(2, 0));
        refuses("sound(-1, 0)", INDEX, Studios::busy, y -> y.sound(-1, 0));
        refuses("sound(0, 20)", INDEX, Studios::busy, y -> y.sound(0, 20));
        refuses("sound(1, 9)", INDEX, Studios::busy, y -> y.sound(1, 9));
        refuses("sound(0, -1)", INDEX, Studios::busy, y -> y.sound(0, -1));
    }

    private static void silenceIs(SplicedLoops x, int k, int first, int cells, int quiet) {
        String got = x.silence(0, k, 0) + " " + x.silence(0, k, 1) + " " + x.silence(0, k, 2);
        due("silence(0, " + k + ", 0 to 2)", got, first + " " + cells + " " + quiet);
    }

    private static void promise9() {
        SplicedLoops x = Studios.usual();
        silenceIs(x, 0, 0, 3, 0);
        silenceIs(x, 1, 7, 3, 8);
        silenceIs(x, 2, 11, 3, 12);
        silenceIs(x, 3, 17, 3, 18);
        x.paint(0, 1, 3, 1);
        x.paint(0, 8, 8, 1);
        x.paint(0, 18, 18, 1);
        silenceIs(x, 0, 0, 1, 0);
        silenceIs(x, 1, 7, 1, -1);
        silenceIs(x, 2, 9, 1, -1);
        silenceIs(x, 3, 11, 3, 12);
        silenceIs(x, 4, 17, 1, -1);
        silenceIs(x, 5, 19, 1, 20);
        refuses("silence(2, 0, 0)", INDEX, Studios::busy, y -> y.silence(2, 0, 0));
        refuses("silence(-1, 0, 3)", INDEX, Studios::busy, y -> y.silence(-1, 0, 3));
        refuses("silence(0, 4, 9)", INDEX, Studios::busy, y -> y.silence(0, 4, 9));
        refuses("silence(1, -1, 0)", INDEX, Studios::busy, y -> y.silence(1, -1, 0));
        refuses("silence(0, 3, 3)", ARGUMENT, Studios::busy, y -> y.silence(0, 3, 3));
        refuses("silence(0, 3, -1)", ARGUMENT, Studios::busy, y -> y.silence(0, 3, -1));
    }

    private static void pieceIs(SplicedLoops x, int k, int first, int cells, int greatest) {
        String got = x.piece(0, k, 0) + " " + x.piece(0, k, 1) + " " + x.piece(0, k, 2);
        due("piece(0, " + k + ", 0 to 2)", got, first + " " + cells + " " + greatest);
    }

    private static void promise10() {
        SplicedLoops x = Studios.usual();
        pieceIs(x, 0, 3, 4, 4);
        pieceIs(x, 1, 10, 1, 9);
        pieceIs(x, 2, 14, 3, 2);
        x.paint(0, 0, 2, 3);
        x.paint(0, 15, 15, 8);
        x.paint(0, 19, 19, 5);
        pieceIs(x, 0, 0, 7, 4);
        pieceIs(x, 2, 14, 3, 8);
        pieceIs(x, 3, 19, 1, 5);
        refuses("piece(2, 0, 0)", INDEX, Studios::busy, y -> y.piece(2, 0, 0));
        refuses("piece(-1, 0, 3)", INDEX, Studios::busy, y -> y.piece(-1, 0, 3));
        refuses("piece(0, 3, 9)", INDEX, Studios::busy, y -> y.piece(0, 3, 9));
        refuses("piece(1, 1, 0)", INDEX, Studios::busy, y -> y.piece(1, 1, 0));
        refuses("piece(1, -1, 0)", INDEX, Studios::busy, y -> y.piece(1, -1, 0));
        refuses("piece(0, 2, 3)", ARGUMENT, Studios::busy, y -> y.piece(0, 2, 3));
        refuses("piece(0, 2, -1)", ARGUMENT, Studios::busy, y -> y.piece(0, 2, -1));
    }

    private static void loopIs(SplicedLoops x, int l, String want) {
        StringBuilder got = new StringBuilder();
        for (int what = 0; what < 9; what++) {
            got.append(what == 0 ? "" : " ").append(x.loopOf(l, what));
        }
        due("loopOf(" + l + ", 0 to 8)", got.toString(), want);
    }

    private static void promise11() {
        SplicedLoops x = Studios.usual();
        loopIs(x, 0, "16 1 1 0 0 0 0 16 2");
        loopIs(x, 1, "9 1 1 0 0 0 0 9 1");
        loopIs(x, 2, "0 1 1 0 -1 0 0 -1 0");
        x.speed(0, 4, 6);
        x.speed(1, 5, 2);
        x.mute(0, true);
        x.ticks(5);
        loopIs(x, 0, "16 4 6 20 3 4 1 24 2");
        loopIs(x, 1, "9 5 2 7 3 0 0 18 1");
        x.speed(2, 9, 8);
        loopIs(x, 2, "0 9 8 0 -1 0 0 -1 0");
        x.speed(1, 9, 1);
        loopIs(x, 1, "9 9 1 3 3 0 0 1 1");
        refuses("loopOf(3, 0)", INDEX, Studios::busy, y -> y.loopOf(3, 0));
        refuses("loopOf(-1, 9)", INDEX, Studios::busy, y -> y.loopOf(-1, 9));
        refuses("loopOf(0, -1)", ARGUMENT, Studios::busy, y -> y.loopOf(0, -1));
        refuses("loopOf(2, 9)", ARGUMENT, Studios::busy, y -> y.loopOf(2, 9));
    }

    private static void promise12() {
        SplicedLoops x = Studios.usual();
        int[] want = {0, 0, 0, 4, 4, 4, 4, 0, 0, 0, 2, 2, 2, 0, 0, 0};
        for (int c = 0; c < 16; c++) {
            due("cell(0, " + c + ")", x.cell(0, c), want[c]);
        }
        due("cell(1, 1)", x.cell(1, 1), 7);
        x.paint(1, 0, 8, 3);
        due("cell(1, 1) behind paint", x.cell(1, 1), 7);
        due("cell(1, 0) behind paint", x.cell(1, 0), 0);
        refuses("cell(0, 16)", INDEX, Studios::busy, y -> y.cell(0, 16));
        refuses("cell(0, -1)", INDEX, Studios::busy, y -> y.cell(0, -1));
        refuses("cell(2, 0)", INDEX, Studios::busy, y -> y.cell(2, 0));
        refuses("cell(3, 0)", INDEX, Studios::busy, y -> y.cell(3, 0));
        refuses("cell(-1, 0)", INDEX, Studios::busy, y -> y.cell(-1, 0));
    }

    private static void promise13() {
        SplicedLoops x = Studios.fresh();
        due("reel(2)", x.reel(2), 0);
        due("reel(60)", x.reel(60), 1);
        due("reelOf(1, 0)", x.reelOf(1, 0), 60);
        due("reelOf(1, 4)", x.reelOf(1, 4), 60);
        due("reel(30)", x.reel(30), 2);
        x.paint(2, 0, 29, 9);
        x.undo();
        x.undo();
        due("reel(50) behind undo()", x.reel(50), 2);
        due("it is all silent", x.reelOf(2, 3) + " " + x.reelOf(2, 4), "0 50");
        SplicedLoops again = Studios.fresh();
        again.save(0);
        again.reel(30);
        again.paint(0, 0, 29, 9);
        again.restore(0);
        due("reel(60) behind restore()", again.reel(60), 0);
        due("it is all silent", again.reelOf(0, 3) + " " + again.reelOf(0, 4), "0 60");
        refuses("reel(1)", ARGUMENT, Studios::busy, y -> y.reel(1));
        refuses("reel(61)", ARGUMENT, Studios::busy, y -> y.reel(61));
        refuses("reel(20) with three", STATE, Studios::threeReels, y -> y.reel(20));
        refuses("reel(1) with three", ARGUMENT, Studios::threeReels, y -> y.reel(1));
    }

    private static void promise14() {
        SplicedLoops x = Studios.silentReel(20);
        due("paint(0, 0, 19, 5)", x.paint(0, 0, 19, 5), 20);
        due("paint(0, 3, 3, 5)", x.paint(0, 3, 3, 5), 0);
        due("paint(0, 3, 3, 6)", x.paint(0, 3, 3, 6), 1);
        due("paint(0, 2, 5, 5)", x.paint(0, 2, 5, 5), 1);
        due("paint(0, 0, 1, 0)", x.paint(0, 0, 1, 0), 2);
        due("paint(0, 18, 19, 9)", x.paint(0, 18, 19, 9), 2);
        due("sounds", x.sound(0, 1) + " " + x.sound(0, 2) + " " + x.sound(0, 17) + " " + x.sound(0, 18), "0 5 5 9");
        due("paint is an action also if nothing becomes different", x.paint(0, 0, 0, 0) + " " + x.undo(), "0 8");
        SplicedLoops loops = Studios.usual();
        String before = loops.loopOf(0, 0) + " " + loops.cell(0, 3) + " " + loops.about(3);
        loops.paint(0, 0, 19, 8);
        due("loops stay as they are", loops.loopOf(0, 0) + " " + loops.cell(0, 3) + " " + loops.about(3), before);
        refuses("paint(2, 0, 0, 0)", INDEX, Studios::busy, y -> y.paint(2, 0, 0, 0));
        refuses("paint(-1, 1, 0, 10)", INDEX, Studios::busy, y -> y.paint(-1, 1, 0, 10));
        refuses("paint(0, -1, 0, 1)", INDEX, Studios::busy, y -> y.paint(0, -1, 0, 1));
        refuses("paint(0, 0, 20, 1)", INDEX, Studios::busy, y -> y.paint(0, 0, 20, 1));
        refuses("paint(0, 20, 3, 1)", INDEX, Studios::busy, y -> y.paint(0, 20, 3, 1));
        refuses("paint(0, 3, -1, 10)", INDEX, Studios::busy, y -> y.paint(0, 3, -1, 10));
        refuses("paint(0, 3, 2, 1)", ARGUMENT, Studios::busy, y -> y.paint(0, 3, 2, 1));
        refuses("paint(0, 3, 4, 10)", ARGUMENT, Studios::busy, y -> y.paint(0, 3, 4, 10));
        refuses("paint(0, 3, 4, -1)", ARGUMENT, Studios::busy, y -> y.paint(0, 3, 4, -1));
    }

    private static void promise15() {
        SplicedLoops x = Studios.fresh();
        for (int l = 0; l < 4; l++) {
            due("loop()", x.loop(), l);
            loopIs(x, l, "0 1 1 0 -1 0 0 -1 0");
        }
        refuses("loop() with four", STATE, Studios::fourLoops, SplicedLoops::loop);
        SplicedLoops again = Studios.silentReel(4);
        again.save(0);
        again.loop();
        again.splice(1, 0, 0, 4);
        again.speed(1, 3, 5);
        again.mute(1, true);
        again.ticks(3);
        again.restore(0);
        due("loop() behind restore()", again.loop(), 1);
        loopIs(again, 1, "0 1 1 0 -1 0 0 -1 0");
    }

    private static void promise16() {
        SplicedLoops x = Studios.usual();
        due("splice(2, 0, 8, 13)", x.splice(2, 0, 8, 13), 0);
        due("splice(2, 0, 18, 20)", x.splice(2, 0, 18, 20), 0);
        loopIs(x, 2, "7 1 1 0 0 0 0 7 2");
        due("its cells", x.cell(2, 1) + " " + x.cell(2, 2) + " " + x.cell(2, 3) + " " + x.cell(2, 6), "0 9 0 0");
        x.ticks(3);
        due("a refused splice", x.splice(2, 0, 5, 5), 1);
        due("leaves the phase", x.loopOf(2, 3), 3);
        due("and is counted", x.about(7), 1);
        due("to less than from", x.splice(2, 0, 8, 4), 1);
        due("not quiet at from, ahead of a silent cell", x.splice(2, 0, 7, 9), 2);
        due("not quiet at from, behind a silent cell", x.splice(2, 0, 3, 9), 2);
        due("not quiet at both", x.splice(2, 0, 4, 5), 2);
        due("not quiet at to", x.splice(2, 0, 8, 10), 3);
        due("not quiet at to, within a piece", x.splice(2, 0, 8, 15), 3);
        due("refused so far", x.about(7), 7);
        due("spliced again", x.splice(2, 0, 8, 9), 0);
        due("the phase is 0 then", x.loopOf(2, 3), 0);
        due("the last place", x.splice(2, 1, 4, 9), 0);
        for (int left = 11; left > 9; left--) {
            x.undo();
        }
        due("a refused splice is an action", x.undo() + " " + x.about(7), "9 6");
        lengths();
        refuses("splice(3, 0, 0, 8)", INDEX, Studios::busy, y -> y.splice(3, 0, 0, 8));
        refuses("splice(-1, 0, 0, 8)", INDEX, Studios::busy, y -> y.splice(-1, 0, 0, 8));
        refuses("splice(0, 2, 0, 8)", INDEX, Studios::busy, y -> y.splice(0, 2, 0, 8));
        refuses("splice(0, -1, 0, 8)", INDEX, Studios::busy, y -> y.splice(0, -1, 0, 8));
        refuses("splice(0, 0, 0, 21)", INDEX, Studios::busy, y -> y.splice(0, 0, 0, 21));
        refuses("splice(0, 0, 21, 8)", INDEX, Studios::busy, y -> y.splice(0, 0, 21, 8));
        refuses("splice(0, 0, 0, -1)", INDEX, Studios::busy, y -> y.splice(0, 0, 0, -1));
        refuses("splice(0, 0, -1, 8)", INDEX, Studios::busy, y -> y.splice(0, 0, -1, 8));
    }

    private static void lengths() {
        SplicedLoops x = Studios.silentReel(60);
        due("49 cells", x.splice(0, 0, 0, 49), 4);
        due("48 cells", x.splice(0, 0, 12, 60), 0);
        due("a cell more", x.splice(0, 0, 0, 1), 4);
        x.unsplice(0);
        for (int i = 0; i < 6; i++) {
            due("piece of tape " + i, x.splice(0, 0, i, i + 1), 0);
        }
        due("a seventh piece", x.splice(0, 0, 0, 1), 5);
        due("a seventh piece of too many cells", x.splice(0, 0, 0, 43), 4);
        due("a seventh piece of as many cells as fit", x.splice(0, 0, 0, 42), 5);
        due("its cells and pieces", x.loopOf(0, 0) + " " + x.loopOf(0, 8), "6 6");
    }

    private static void promise17() {
        SplicedLoops x = Studios.usual();
        x.ticks(3);
        due("unsplice(0)", x.unsplice(0), 8);
        loopIs(x, 0, "8 1 1 0 0 0 0 8 1");
        due("the other loop goes on", x.loopOf(1, 3), 3);
        due("the time", x.about(2), 3);
        due("unsplice(0) again", x.unsplice(0), 0);
        loopIs(x, 0, "0 1 1 0 -1 0 0 -1 0");
        due("splice behind it", x.splice(0, 0, 12, 18), 0);
        due("cell(0, 2) of the new tape", x.cell(0, 2) + " " + x.cell(0, 5), "2 0");
        x.speed(1, 2, 3);
        x.mute(1, true);
        x.unsplice(1);
        loopIs(x, 1, "0 2 3 0 -1 0 1 -1 0");
        refuses("unsplice(2) of an empty loop", STATE, Studios::busy, y -> y.unsplice(2));
        refuses("unsplice(3)", INDEX, Studios::busy, y -> y.unsplice(3));
        refuses("unsplice(-1)", INDEX, Studios::busy, y -> y.unsplice(-1));
    }

    private static void promise18() {
        SplicedLoops x = Studios.usual();
        x.ticks(5);
        due("speed(0, 2, 3)", x.speed(0, 2, 3), 15);
        loopIs(x, 0, "16 2 3 15 5 4 0 24 2");
        x.ticks(1);
        due("speed(0, 9, 9) within the cell", x.speed(0, 9, 9), 45);
        due("speed(0, 1, 1)", x.speed(0, 1, 1), 5);
        due("speed(1, 4, 2)", x.speed(1, 4, 2), 12);
        due("its speed is as told", x.loopOf(1, 1) + " " + x.loopOf(1, 2), "4 2");
        due("speed(2, 7, 7) of an empty loop", x.speed(2, 7, 7), 0);
        refuses("speed(3, 1, 1)", INDEX, Studios::busy, y -> y.speed(3, 1, 1));
        refuses("speed(-1, 0, 0)", INDEX, Studios::busy, y -> y.speed(-1, 0, 0));
        refuses("speed(0, 0, 1)", ARGUMENT, Studios::busy, y -> y.speed(0, 0, 1));
        refuses("speed(0, 10, 1)", ARGUMENT, Studios::busy, y -> y.speed(0, 10, 1));
        refuses("speed(0, 1, 0)", ARGUMENT, Studios::busy, y -> y.speed(0, 1, 0));
        refuses("speed(0, 1, 10)", ARGUMENT, Studios::busy, y -> y.speed(0, 1, 10));
    }

    private static void promise19() {
        SplicedLoops x = Studios.loopsOf("12", "34");
        due("mute(0, true)", x.mute(0, true), 3);
        due("mute(1, true)", x.mute(1, true), 0);
        due("mute(1, true) again", x.mute(1, true), 0);
        due("about(5)", x.about(5), 3);
        due("a muted loop goes on", x.ticks(1) + " " + x.loopOf(0, 3), "0 1");
        due("mute(0, false)", x.mute(0, false), 2);
        due("mute(1, false)", x.mute(1, false), 6);
        due("mute of a muted loop is an action", x.mute(1, false) + " " + x.undo(), "6 11");
        refuses("mute(3, true)", INDEX, Studios::busy, y -> y.mute(3, true));
        refuses("mute(-1, false)", INDEX, Studios::busy, y -> y.mute(-1, false));
    }

    private static void promise20() {
        SplicedLoops x = Studios.loopsOf("123", "45");
        due("ticks(1)", x.ticks(1), 7);
        due("ticks(1) again", x.ticks(1), 7);
        due("ticks(999)", x.ticks(999), 8);
        due("the time", x.about(2), 1001);
        due("the phases", x.loopOf(0, 3) + " " + x.loopOf(1, 3), "2 1");
        x.speed(0, 2, 3);
        due("ticks(2) at two thirds", x.ticks(2) + " " + x.loopOf(0, 3), "6 1");
        SplicedLoops empty = Studios.fresh();
        due("ticks(5) without loops", empty.ticks(5) + " " + empty.about(2), "0 5");
        refuses("ticks(0)", ARGUMENT, Studios::busy, y -> y.ticks(0));
        refuses("ticks(1000)", ARGUMENT, Studios::busy, y -> y.ticks(1000));
        refuses("ticks(-1)", ARGUMENT, Studios::busy, y -> y.ticks(-1));
    }

    private static void promise21() {
        SplicedLoops x = Studios.loopsOf("129", "55");
        x.reel(8);
        x.paint(2, 0, 7, 3);
        due("record(2, 6)", x.record(2, 6), 44);
        StringBuilder got = new StringBuilder();
        for (int c = 0; c < 8; c++) {
            got.append(x.sound(2, c));
        }
        due("what is recorded", got.toString(), "67967933");
        due("the time", x.about(2) + " " + x.loopOf(0, 3) + " " + x.loopOf(1, 3), "6 0 0");
        due("record(2, 1)", x.record(2, 1) + " " + x.about(2), "6 7");
        due("record(2, 8)", x.record(2, 8), 7 + 9 + 6 + 7 + 9 + 6 + 7 + 9);
        x.mute(1, true);
        due("record(0, 3) without the muted loop", x.record(0, 3), 12);
        due("the loop stays as it is", x.cell(0, 0) + " " + x.cell(0, 1) + " " + x.cell(0, 2), "1 2 9");
        refuses("record(2, 1)", INDEX, Studios::busy, y -> y.record(2, 1));
        refuses("record(-1, 0)", INDEX, Studios::busy, y -> y.record(-1, 0));
        refuses("record(0, 0)", ARGUMENT, Studios::busy, y -> y.record(0, 0));
        refuses("record(0, 21)", ARGUMENT, Studios::busy, y -> y.record(0, 21));
        refuses("record(1, 10)", ARGUMENT, Studios::busy, y -> y.record(1, 10));
    }

    private static void promise22() {
        SplicedLoops x = Studios.fresh();
        for (int i = 0; i < 15; i++) {
            x.ticks(1);
        }
        for (int left = 11; left >= 0; left--) {
            due("undo()", x.undo(), left);
            due("the time behind it", x.about(2), 3 + left);
        }
        due("undo() with none left", Due.answer(x::undo), "throws.IllegalStateException");
        due("the time behind it", x.about(2), 3);
        x.ticks(7);
        due("undo() behind a new action", x.undo() + " " + x.about(2), "0 3");
        for (int undone = 1; undone <= 12; undone++) {
            SplicedLoops all = new SplicedLoops();
            String before = "";
            for (int i = 0; i < 12; i++) {
                before = i == 12 - undone ? Due.stateOf(all) : before;
                actionOf(all, i);
            }
            for (int left = 11; left >= 12 - undone; left--) {
                due("undo() of action " + left, all.undo(), left);
            }
            due("the state behind undo() of " + undone + " actions", Due.stateOf(all), before);
        }
        SplicedLoops kept = Studios.busy();
        kept.append('l');
        kept.ticks(9);
        kept.undo();
        due("undo() leaves the text and the slots", kept.clearText() + " " + kept.restore(0) + " " + kept.about(2), "3 0 0");
        refuses("undo() behind restore()", STATE, () -> {
            SplicedLoops y = Studios.busy();
            y.restore(0);
            return y;
        }, SplicedLoops::undo);
    }

    private static void actionOf(SplicedLoops x, int i) {
        switch (i) {
            case 0: x.reel(12); break;
            case 1: x.paint(0, 2, 3, 8); break;
            case 2: x.loop(); break;
            case 3: x.splice(0, 0, 0, 5); break;
            case 4: x.splice(0, 0, 0, 3); break;
            case 5: x.ticks(2); break;
            case 6: x.speed(0, 3, 4); break;
            case 7: x.record(0, 9); break;
            case 8: x.mute(0, true); break;
            case 9: x.splice(0, 0, 11, 12); break;
            case 10: x.loop(); break;
            default: x.unsplice(0); break;
        }
    }

    private static void promise23() {
        SplicedLoops x = Studios.usual();
        due("soundIn(0)", x.soundIn(0), 0);
        due("soundIn(1)", x.soundIn(1), 7);
        due("soundIn(17)", x.soundIn(17), 0);
        due("soundIn(20)", x.soundIn(20), 11);
        due("soundIn(1000000)", x.soundIn(1000000), 7);
        x.speed(0, 9, 1);
        due("soundIn(1000000) at speed 9", x.soundIn(1000000), 7);
        due("soundIn(999999) at speed 9", x.soundIn(999999), 0);
        due("soundIn(11) at speed 9", x.soundIn(11), 11);
        x.mute(0, true);
        due("soundIn(11) without the muted loop", x.soundIn(11), 7);
        due("the time stays", x.about(2), 0);
        refuses("soundIn(-1)", ARGUMENT, Studios::busy, y -> y.soundIn(-1));
        refuses("soundIn(1000001)", ARGUMENT, Studios::busy, y -> y.soundIn(1000001));
    }

    private static void meets(SplicedLoops x, int l, int l2, int want) {
        for (int way = 0; way < 2; way++) {
            due("meet(" + l + ", " + l2 + ", " + way + ")", x.meet(l, l2, way), want);
            due("meet(" + l2 + ", " + l + ", " + way + ")", x.meet(l2, l, way), want);
        }
    }

    private static void promise24() {
        SplicedLoops x = Studios.loopsOf("12345", "1234567", "1234567890");
        meets(x, 0, 0, 0);
        meets(x, 0, 1, 0);
        x.ticks(1);
        meets(x, 0, 0, 4);
        meets(x, 0, 1, 34);
        meets(x, 0, 2, 9);
        x.mute(0, true);
        meets(x, 0, 1, 34);
        x.speed(1, 2, 7);
        meets(x, 1, 1, 21);
        meets(x, 0, 1, 119);
        x.loop();
        meets(x, 0, 3, -1);
        meets(x, 3, 3, -1);
        SplicedLoops later = Studios.loopsOf("123450", "1234567890");
        later.ticks(2);
        later.unsplice(0);
        later.paint(0, 5, 5, 1);
        later.splice(0, 0, 0, 6);
        meets(later, 0, 1, 18);
        SplicedLoops never = Studios.loopsOf("1234", "12345678");
        never.ticks(1);
        never.splice(0, 0, 0, 4);
        never.unsplice(0);
        meets(never, 0, 1, -1);
        SplicedLoops stuck = Studios.loopsOf("1234", "123");
        stuck.ticks(1);
        stuck.speed(0, 2, 1);
        meets(stuck, 0, 1, -1);
        meets(stuck, 0, 0, -1);
        meets(stuck, 1, 1, 2);
        refuses("meet(0, 3, 0)", INDEX, Studios::busy, y -> y.meet(0, 3, 0));
        refuses("meet(3, 0, 2)", INDEX, Studios::busy, y -> y.meet(3, 0, 2));
        refuses("meet(-1, 0, 0)", INDEX, Studios::busy, y -> y.meet(-1, 0, 0));
        refuses("meet(0, -1, 1)", INDEX, Studios::busy, y -> y.meet(0, -1, 1));
        refuses("meet(0, 1, 2)", ARGUMENT, Studios::busy, y -> y.meet(0, 1, 2));
        refuses("meet(2, 2, -1)", ARGUMENT, Studios::busy, y -> y.meet(2, 2, -1));
    }

    /** Silent loops of the lengths told, all at 0; the first one has the speed 1 / 9. */
    private static SplicedLoops slowFirst(int... lengths) {
        SplicedLoops x = new SplicedLoops();
        x.reel(60);
        for (int l = 0; l < lengths.length; l++) {
            x.loop();
            x.splice(l, 0, 0, lengths[l]);
        }
        x.speed(0, 1, 9);
        return x;
    }

    private static void promise25() {
        due("meetAll() without loops", Studios.fresh().meetAll(), -1);
        due("meetAll() of empty loops", Studios.fourLoops().meetAll(), -1);
        SplicedLoops x = Studios.loopsOf("12345", "1234567", "123456789");
        x.loop();
        due("meetAll() at once", x.meetAll(), 0);
        x.ticks(2);
        due("meetAll()", x.meetAll(), 313);
        x.mute(1, true);
        due("meetAll() with a muted loop", x.meetAll(), 313);
        x.unsplice(1);
        due("meetAll() without an emptied loop", x.meetAll(), 43);
        x.speed(0, 2, 1);
        x.speed(2, 2, 1);
        due("meetAll() at speed 2", x.meetAll(), 44);
        SplicedLoops shared = Studios.loopsOf("123456", "1234", "1234567");
        shared.ticks(2);
        due("meetAll() of periods with a common divisor", shared.meetAll(), 82);
        SplicedLoops never = Studios.loopsOf("1234", "123456");
        never.ticks(1);
        never.splice(0, 0, 0, 4);
        never.unsplice(0);
        due("meetAll() never", never.meetAll(), -1);
        // Periods 9 * 47, 43, 41, 37: 27,592,389 in all; the first three alone 745,749.
        SplicedLoops far = slowFirst(47, 43, 41);
        far.ticks(1);
        due("meetAll() just behind a meeting", far.meetAll(), 745748);
        SplicedLoops farther = slowFirst(47, 43, 41, 37);
        due("meetAll() of four at once", farther.meetAll(), 0);
        farther.ticks(1);
        due("meetAll() not by then", farther.meetAll(), -1);
        limitOfMeetAll();
    }

    private static void limitOfMeetAll() {
        // Periods 8 * 47 = 376, 9 * 43 = 387, 7: 1,018,584 in all.
        SplicedLoops y = new SplicedLoops();
        y.reel(60);
        for (int l = 0; l < 3; l++) {
            y.loop();
        }
        y.splice(0, 0, 0, 47);
        y.splice(1, 0, 0, 43);
        y.splice(2, 0, 0, 7);
        y.speed(0, 1, 8);
        y.speed(1, 1, 9);
        for (int i = 0; i < 18; i++) {
            y.ticks(999);
        }
        y.ticks(1018584 - 1000001 - 18 * 999);
        due("meetAll() a tick behind the limit", y.meetAll(), -1);
        y.ticks(1);
        due("meetAll() at the limit", y.meetAll(), 1000000);
        y.ticks(1);
        due("meetAll() ahead of the limit", y.meetAll(), 999999);
    }

    private static void promise26() {
        SplicedLoops x = Studios.usual();
        due("loudest(200, 0)", x.loudest(200, 0), 20 - 9);
        due("loudest(200, 1)", x.loudest(200, 1), 19);
        due("loudest(18, 0)", x.loudest(18, 0), 9);
        due("loudest(18, 1)", x.loudest(18, 1), 10);
        due("loudest(19, 0)", x.loudest(19, 0), 11);
        due("loudest(1, 1)", x.loudest(1, 1), 1);
        x.ticks(19);
        due("loudest(2000, 0) now", x.loudest(2000, 0), 11);
        due("loudest(2000, 1) now", x.loudest(2000, 1), 0);
        x.mute(1, true);
        due("loudest(50, 0) without a muted loop", x.loudest(50, 0), 4);
        due("loudest(5, 0) without loops", Studios.fresh().loudest(5, 0), 0);
        due("loudest(5, 1) without loops", Studios.fresh().loudest(5, 1), 0);
        refuses("loudest(0, 0)", ARGUMENT, Studios::busy, y -> y.loudest(0, 0));
        refuses("loudest(2001, 0)", ARGUMENT, Studios::busy, y -> y.loudest(2001, 0));
        refuses("loudest(5, 2)", ARGUMENT, Studios::busy, y -> y.loudest(5, 2));
        refuses("loudest(5, -1)", ARGUMENT, Studios::busy, y -> y.loudest(5, -1));
    }

    private static void promise27() {
        SplicedLoops x = Studios.loopsOf("12312", "31212", "1212");
        due("turnedBy(0, 0)", x.turnedBy(0, 0), 0);
        due("turnedBy(0, 1)", x.turnedBy(0, 1), 3);
        due("turnedBy(1, 0)", x.turnedBy(1, 0), 2);
        due("turnedBy(0, 2)", x.turnedBy(0, 2), -1);
        due("turnedBy(2, 2)", x.turnedBy(2, 2), 0);
        x.loop();
        due("turnedBy(3, 3)", x.turnedBy(3, 3), -1);
        due("turnedBy(3, 0)", x.turnedBy(3, 0), -1);
        due("turnedBy(0, 3)", x.turnedBy(0, 3), -1);
        SplicedLoops twice = Studios.loopsOf("1212", "2121", "2211");
        due("the least of two turns", twice.turnedBy(0, 1), 1);
        due("no turn of as many cells", twice.turnedBy(0, 2), -1);
        SplicedLoops last = Studios.loopsOf("1234", "2341");
        due("the last cell as the first", last.turnedBy(0, 1), 3);
        due("and back", last.turnedBy(1, 0), 1);
        due("the first cell alone is unlike", Studios.loopsOf("122", "322").turnedBy(0, 1), -1);
        due("the last cell alone is unlike", Studios.loopsOf("221", "223").turnedBy(0, 1), -1);
        refuses("turnedBy(3, 0)", INDEX, Studios::busy, y -> y.turnedBy(3, 0));
        refuses("turnedBy(0, 3)", INDEX, Studios::busy, y -> y.turnedBy(0, 3));
        refuses("turnedBy(-1, 0)", INDEX, Studios::busy, y -> y.turnedBy(-1, 0));
        refuses("turnedBy(0, -1)", INDEX, Studios::busy, y -> y.turnedBy(0, -1));
    }

    /** The object that scripts are tried on: Studios.usual() behind one tick, loop 0 at phase 1, loop 1 at phase 1, sound 7. */
    private static SplicedLoops scripted() {
        SplicedLoops x = Studios.usual();
        x.ticks(1);
        return x;
    }

    private static void one(int script, int want) {
        SplicedLoops x = scripted();
        due("runScript(1, " + script + ")", x.runScript(1, script), want);
        due("runScript(1, " + script + ") changes nothing", Due.stateOf(x), Due.stateOf(scripted()));
    }

    private static void two(long first, long second, int want) {
        SplicedLoops x = scripted();
        long script = first * 10000000 + second;
        due("runScript(2, " + script + ")", x.runScript(2, script), want);
    }

    private static void promise28() {
        int[] succeed = {1000001, 1000999, 2200008, 2200812, 3023000, 3299000, 4000000, 4000001, 4200001, 5000020, 5100009,
            5000001, 6000000, 6000007, 7000001, 7100001, 7200000, 9000034, 9000109, 9100027, 9000000, 9000190};
        for (int script : succeed) {
            one(script, -1);
        }
        int[] fail = {0, 1, 999999, 1000000, 1001001, 1010001, 1100001, 2300008, 2030008, 2000021, 2000308, 2000800, 2210009 + 1,
            3323000, 3003000, 3020000, 3023001, 3023010, 3023100, 4300000, 4000002, 4000010, 4000100, 4001000, 4010000,
            5200001, 5000000, 5000021, 5100010, 5000101, 5001001, 5010001, 6000008, 6000107, 6001007, 6010007, 6100007,
            7000000, 7000002, 7300000, 7001001, 7010001, 8000000, 8010000, 8120000, 8300000, 8220000,
            9200000, 9000200, 9000035, 9001034, 9010034, 9110027, 9100099};
        for (int script : fail) {
            one(script, 0);
        }
        two(1000015, 8000000, -1);
        two(1000015, 8010000, 1);
        two(1000015, 8000001, 1);
        two(1000015, 8000010, 1);
        two(1000015, 8000100, 1);
        two(1000015, 8001000, 1);
        two(1000015, 8020000, 1);
        two(1000015, 8200000, 1);
        two(1000015, 8040000, 1);
        two(1000001, 6000007, -1);
        two(1000001, 6000008, 1);
        two(1000998, 7000007, -1);
        two(1000998, 7100000, -1);
        two(1000999, 7100000, 1);
        two(2210009, 7200000, -1);
        two(2210009, 8220000, -1);
        two(2000812, 7000000, -1);
        two(2000812, 7000001, 1);
        two(3023000, 7000003, -1);
        two(4100001, 6000001, 1);
        two(4100000, 6000007, -1);
        two(5000002, 9000007, -1);
        two(5000002, 9000017, -1);
        two(5000002, 9000034, -1);
        two(5000002, 7000003, -1);
        two(9000035, 1000001, 0);
        two(0, 1000001, 0);
        two(1000001, 0, 1);
        two(2200008, 2200008, -1);
        SplicedLoops full = Studios.silentReel(60);
        full.splice(0, 0, 0, 40);
        due("a piece that cannot be cut fails", full.runScript(2, 20000082000001L), 1);
        due("both states stay", full.about(7) + " " + full.about(6), "0 40");
        due("runScript(2, ..) of all digits", scripted().runScript(2, 99999999999999L), 0);
        due("runScript(1, ..) of all digits", scripted().runScript(1, 9999999L), 0);
        refuses("runScript(0, 0)", ARGUMENT, Studios::busy, y -> y.runScript(0, 0));
        refuses("runScript(3, 0)", ARGUMENT, Studios::busy, y -> y.runScript(3, 0));
        refuses("runScript(1, -1)", ARGUMENT, Studios::busy, y -> y.runScript(1, -1));
        refuses("runScript(1, 10000000)", ARGUMENT, Studios::busy, y -> y.runScript(1, 10000000));
        refuses("runScript(2, 100000000000000)", ARGUMENT, Studios::busy, y -> y.runScript(2, 100000000000000L));
        refuses("runScript(2, Long.MIN_VALUE)", ARGUMENT, Studios::busy, y -> y.runScript(2, Long.MIN_VALUE));
    }

    private static void promise29() {
        long[] seeds = {0, 1, -1, Long.MIN_VALUE, Long.MAX_VALUE, 42, 123456789012345L};
        int loud = 0;
        for (int i = 0; i < 200; i++) {
            long seed = i < seeds.length ? seeds[i] : i * 7919L;
            int m = i % 60 + 1;
            int want = Turns.byTurns(Studios.usual(), seed, m);
            loud += want % 1000 > 0 ? 1 : 0;
            due("simulate(" + seed + ", " + m + ")", Studios.usual().simulate(seed, m), want);
            due("simulate(" + seed + ", 60) on a new object", Studios.fresh().simulate(seed, 60), Turns.byTurns(Studios.fresh(), seed, 60));
        }
        due("some end with a sound", loud > 20, true);
        Due.same("simulate() changes nothing", () -> {
            SplicedLoops x = Studios.busy();
            x.simulate(5, 60);
            return x;
        }, Studios::busy);
        refuses("simulate(1, 0)", ARGUMENT, Studios::busy, y -> y.simulate(1, 0));
        refuses("simulate(1, 61)", ARGUMENT, Studios::busy, y -> y.simulate(1, 61));
    }

    private static void promise30() {
        SplicedLoops x = Studios.usual();
        due("save(0)", x.save(0), 0);
        x.ticks(7);
        due("save(1)", x.save(1), 7);
        due("save() is no action", x.undo() + " " + x.about(2), "11 0");
        x.ticks(3);
        due("save(0) again", x.save(0), 3);
        due("save() leaves the remembered states", x.undo(), 11);
        due("the slot has the later state", x.restore(0), 3);
        due("the other slot is as it was", x.restore(1), 7);
        refuses("save(-1)", INDEX, Studios::busy, y -> y.save(-1));
        refuses("save(2)", INDEX, Studios::busy, y -> y.save(2));
    }

    private static void promise31() {
        SplicedLoops x = Studios.usual();
        x.ticks(4);
        x.splice(0, 0, 1, 0);
        x.mute(1, true);
        x.save(1);
        String saved = Due.stateOf(x);
        x.reel(30);
        x.paint(0, 0, 19, 1);
        x.unsplice(0);
        x.speed(1, 5, 5);
        x.loop();
        x.ticks(100);
        due("restore(1)", x.restore(1), 4);
        due("the state behind it", Due.stateOf(x), saved);
        due("no state is remembered", Due.answer(x::undo), "throws.IllegalStateException");
        x.ticks(1);
        due("an action behind it", x.undo() + " " + x.about(2), "0 4");
        x.paint(1, 0, 8, 9);
        x.mute(1, false);
        due("restore(1) again", x.restore(1), 4);
        due("the slot keeps it", Due.stateOf(x), saved);
        due("the other slot is empty", Due.answer(() -> x.restore(0)), "throws.IllegalStateException");
        Due.write(x, "Zl");
        x.restore(1);
        due("restore() leaves the text", x.clearText(), 2);
        refuses("restore(1) with nothing in it", STATE, Studios::busy, y -> y.restore(1));
        refuses("restore(-1)", INDEX, Studios::busy, y -> y.restore(-1));
        refuses("restore(2)", INDEX, Studios::busy, y -> y.restore(2));
    }

    public static void main(String[] args) {
        promise1();
        promise2();
        promise3();
        promise4();
        promise5();
        promise6();
        promise7();
        promise8();
        promise9();
        promise10();
        promise11();
        promise12();
        promise13();
        promise14();
        promise15();
        promise16();
        promise17();
        promise18();
        promise19();
        promise20();
        promise21();
        promise22();
        promise23();
        promise24();
        promise25();
        promise26();
        promise27();
        promise28();
        promise29();
        promise30();
        promise31();
        Due.close("PromiseTests");
    }
}
