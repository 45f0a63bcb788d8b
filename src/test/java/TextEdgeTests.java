/** The edges of the section "TEXT" of the terms and of the promises 1 to 5, each in a test of its own. */
public final class TextEdgeTests {
    private static final String COMMANDS = "rplcvmtw";
    private static final String DIGITS = "0123456789";

    /** Each command, with the least and the greatest numbers. */
    private static final String[] LEAST = {"r02", "p000000", "l", "c000000", "v011", "m00", "t001", "w001"};
    private static final String[] GREATEST = {"r60", "p260609", "l", "c326060", "v399", "m31", "t999", "w260"};

    private static void test(String title, Runnable body) {
        Due.test(title, body);
    }

    private static void due(String call, Object got, Object want) {
        Due.due(call, got, want);
    }

    private static void error(String text, int want) {
        due("errorPosition() of \"" + text + "\"", Studios.withText(text).errorPosition(), want);
    }

    private static void good(String text) {
        error(text, -1);
    }

    /** Behind these beginnings just these characters are allowed, of all 256. */
    private static void allowed(String signs, String... beginnings) {
        for (String beginning : beginnings) {
            for (int c = 0; c < 256; c++) {
                int got = Studios.withText(beginning + (char) c).errorPosition();
                boolean taken = got != beginning.length();
                due("\"" + beginning + "\" and the character " + c + " is allowed", taken, signs.indexOf(c) >= 0);
                due("what comes next is looked at", !taken || got == -1 || got == beginning.length() + 1, true);
            }
        }
    }

    private static void studios() {
        test("TEXT: a studio begins with the letter Z", () -> allowed("Z", ""));
        test("TEXT: a studio can be without commands", () -> good("Z"));
        test("TEXT: a command is one of eight letters", () -> allowed(COMMANDS, "Z"));
        test("TEXT: any number of commands, one behind the other", () -> {
            good("Zl");
            good("Z" + String.join("", LEAST));
            good("Z" + String.join("", GREATEST));
            good("Z" + "l".repeat(119));
            for (String command : GREATEST) {
                allowed(COMMANDS, "Z" + command);
            }
        });
        test("TEXT: the least numbers", () -> {
            for (String command : LEAST) {
                good("Z" + command);
            }
        });
        test("TEXT: the greatest numbers", () -> {
            for (String command : GREATEST) {
                good("Z" + command);
            }
        });
    }

    private static void numbers() {
        test("TEXT: a reel is a digit, 0 to 2", () -> allowed("012", "Zp", "Zw", "Zc0", "Zc3"));
        test("TEXT: a loop is a digit, 0 to 3", () -> allowed("0123", "Zc", "Zv", "Zm"));
        test("TEXT: a place or cell is 00 to 60: its first digit", () ->
            allowed("0123456", "Zp0", "Zp2", "Zp000", "Zp260", "Zc00", "Zc32", "Zc0000", "Zc3260"));
        test("TEXT: a place or cell is 00 to 60: behind 0 to 5", () ->
            allowed(DIGITS, "Zp00", "Zp05", "Zp0000", "Zp0605", "Zc000", "Zc005", "Zc00000", "Zc00605"));
        test("TEXT: a place or cell is 00 to 60: behind 6", () ->
            allowed("0", "Zp06", "Zp0006", "Zc006", "Zc00006"));
        test("TEXT: r has two digits, 02 to 60", () -> {
            allowed("0123456", "Zr");
            allowed("23456789", "Zr0");
            allowed(DIGITS, "Zr1", "Zr2", "Zr3", "Zr4", "Zr5");
            allowed("0", "Zr6");
            error("Zr00", 3);
            error("Zr01", 3);
            good("Zr02");
            good("Zr59");
            good("Zr60");
            error("Zr61", 3);
            error("Zr70", 2);
            error("Zr600", 4);
        });
        test("TEXT: p ends with a digit for a sound, 0 to 9", () -> allowed(DIGITS, "Zp00000", "Zp26060", "Zp16000"));
        test("TEXT: v has two digits, each 1 to 9", () -> allowed("123456789", "Zv0", "Zv3", "Zv01", "Zv39"));
        test("TEXT: m ends with a digit, 0 or 1", () -> allowed("01", "Zm0", "Zm3"));
        test("TEXT: t has three digits, 001 to 999", () -> {
            allowed(DIGITS, "Zt", "Zt0", "Zt1", "Zt9", "Zt01", "Zt09", "Zt10", "Zt90", "Zt99");
            allowed("123456789", "Zt00");
            error("Zt000", 4);
            good("Zt001");
            good("Zt999");
            error("Zt9990", 5);
        });
        test("TEXT: w ends with two digits, 01 to 60", () -> {
            allowed("0123456", "Zw0", "Zw2");
            allowed("123456789", "Zw00");
            allowed(DIGITS, "Zw01", "Zw15", "Zw25");
            allowed("0", "Zw06", "Zw26");
            error("Zw000", 4);
            good("Zw001");
            good("Zw060");
            error("Zw061", 4);
        });
    }

    private static void errors() {
        test("TEXT: there are no blanks", () -> {
            error(" Z", 0);
            error("Z ", 1);
            error("Z l", 1);
            error("Zl ", 2);
            error("Zl l", 2);
            error("Zr 02", 2);
            error("Zr0 2", 3);
            error("Zr02 ", 4);
            error("Zm0 1", 3);
        });
        test("TEXT: the error position is the first error's", () -> {
            error("Zxr61", 1);
            error("Zr61x", 3);
            error("Zlr02m02zz", 7);
            error("xyz", 0);
        });
        test("TEXT: if the text ends too soon, the error position is its length", () -> {
            error("", 0);
            for (String command : GREATEST) {
                for (int n = 1; n < command.length(); n++) {
                    error("Z" + command.substring(0, n), 1 + n);
                    error("Zl" + command.substring(0, n), 2 + n);
                }
            }
            error("Zt00", 4);
            error("Zr0", 3);
            error("Zw00", 4);
            error("Zp000", 5);
        });
        test("TEXT: a text of 120 characters that ends too soon", () -> error("Z" + "l".repeat(118) + "r", 120));
        test("TEXT: a text of 120 characters with an error at its last one", () -> {
            error("Z" + "l".repeat(118) + "x", 119);
            error("Z" + "l".repeat(116) + "r61", 119);
        });
        test("TEXT: a text of 120 characters that is a studio", () -> {
            good("Z" + "l".repeat(116) + "r60");
            good("Z" + "p000000".repeat(17));
        });
    }

    private static void promise1() {
        test("Promise 1: a new object has neither reels nor loops", () -> {
            SplicedLoops x = Studios.fresh();
            due("about(0) and about(1)", x.about(0) + " " + x.about(1), "0 0");
            Due.fails("reelOf(0, 0)", Due.INDEX, () -> x.reelOf(0, 0));
            Due.fails("loopOf(0, 0)", Due.INDEX, () -> x.loopOf(0, 0));
        });
        test("Promise 1: its time, its sound and its counts are 0", () -> {
            for (int what = 2; what < 8; what++) {
                due("about(" + what + ")", Studios.fresh().about(what), 0);
            }
        });
        test("Promise 1: its text is empty", () -> {
            due("clearText()", Studios.fresh().clearText(), 0);
            due("errorPosition()", Studios.fresh().errorPosition(), 0);
        });
        test("Promise 1: it remembers no state", () -> Due.fails("undo()", Due.STATE, () -> Studios.fresh().undo()));
        test("Promise 1: both its save slots are empty", () -> {
            Due.fails("restore(0)", Due.STATE, () -> Studios.fresh().restore(0));
            Due.fails("restore(1)", Due.STATE, () -> Studios.fresh().restore(1));
        });
        test("Promise 1: objects do not share anything", () -> {
            SplicedLoops one = Studios.full();
            due("an object made behind a full one", Due.stateOf(Studios.fresh()), "0 0 0 0 0 0 0 0 ");
            due("the full one", Due.stateOf(one), Due.stateOf(Studios.full()));
        });
    }

    private static SplicedLoops text(int length) {
        return Studios.withText("Z" + "l".repeat(length - 1));
    }

    private static void promise2() {
        test("Promise 2: c is 0 to 255", () -> {
            SplicedLoops x = Studios.fresh();
            due("append(0)", x.append(0), 1);
            due("append(1)", x.append(1), 2);
            due("append(254)", x.append(254), 3);
            due("append(255)", x.append(255), 4);
        });
        test("Promise 2: c out of its range is refused", () -> {
            for (int c : new int[] {-1, 256, Integer.MIN_VALUE, Integer.MAX_VALUE}) {
                Due.refuses("append(" + c + ")", Due.ARGUMENT, Studios::busy, x -> x.append(c));
            }
        });
        test("Promise 2: the new length is 1 to 120", () -> {
            SplicedLoops x = Studios.fresh();
            for (int n = 1; n <= 120; n++) {
                due("append number " + n, x.append('Z'), n);
            }
        });
        test("Promise 2: the 120th character is taken", () -> {
            SplicedLoops x = text(119);
            due("append('x')", x.append('x'), 120);
            due("errorPosition()", x.errorPosition(), 119);
        });
        test("Promise 2: the 121st character is refused", () -> {
            Due.refuses("append('Z')", Due.STATE, () -> text(120), x -> x.append('Z'));
            Due.refuses("append(0)", Due.STATE, Studios::full, x -> x.append(0));
            Due.refuses("append(255)", Due.STATE, Studios::full, x -> x.append(255));
        });
        test("Promise 2: c out of its range for a full text is named first", () -> {
            Due.refuses("append(-1)", Due.ARGUMENT, () -> text(120), x -> x.append(-1));
            Due.refuses("append(256)", Due.ARGUMENT, Studios::full, x -> x.append(256));
        });
    }

    private static void promise3() {
        test("Promise 3: the previous length is 0 to 120", () -> {
            for (int n : new int[] {1, 2, 119, 120}) {
                due("clearText() of " + n + " characters", text(n).clearText(), n);
            }
            due("clearText() of none", Studios.fresh().clearText(), 0);
        });
        test("Promise 3: the text is empty then", () -> {
            SplicedLoops x = text(120);
            x.clearText();
            due("clearText() again", x.clearText(), 0);
            due("errorPosition()", x.errorPosition(), 0);
            due("append('Z')", x.append('Z'), 1);
            due("errorPosition() of Z alone", x.errorPosition(), -1);
        });
        test("Promise 3: 120 characters go into a text that was full", () -> {
            SplicedLoops x = text(120);
            x.clearText();
            Due.write(x, "Z" + "t001".repeat(29) + "lxl");
            due("errorPosition()", x.errorPosition(), 118);
            due("clearText()", x.clearText(), 120);
        });
        test("Promise 3: nothing else becomes different", () -> {
            SplicedLoops x = Studios.busy();
            x.clearText();
            due("the state", Due.stateOf(x), Due.stateOf(Studios.busy()));
            due("undo()", x.undo(), 11);
            due("restore(0)", x.restore(0), 0);
        });
    }

    private static void promise4() {
        test("Promise 4: an empty text has its error at 0", () -> error("", 0));
        test("Promise 4: NONE if the text is a studio", () -> {
            good("Z");
            due("NONE", SplicedLoops.NONE, -1);
        });
        test("Promise 4: nothing becomes different", () -> {
            Due.asks("errorPosition()", -1, Studios::busy, SplicedLoops::errorPosition);
            Due.asks("errorPosition()", 3, Studios::young, SplicedLoops::errorPosition);
            Due.asks("errorPosition()", -1, Studios::full, SplicedLoops::errorPosition);
        });
        test("Promise 4: whether a command would be left out is no matter", () -> {
            good("Zc000000");
            good("Zr02r02r02r02p260000");
        });
    }

    private static void promise5() {
        test("Promise 5: everything is as in a new object", () -> {
            SplicedLoops x = Studios.full();
            x.clearText();
            x.append('Z');
            due("load()", x.load(), 0);
            due("the state", Due.stateOf(x), "0 0 0 0 0 0 0 0 ");
        });
        test("Promise 5: behind it reels are silent and loops empty as at first", () -> {
            SplicedLoops x = Studios.full();
            x.clearText();
            Due.write(x, "Zr60r60r60llll");
            due("load()", x.load(), 0);
            SplicedLoops want = Studios.fresh();
            for (int i = 0; i < 3; i++) {
                want.reel(60);
            }
            for (int i = 0; i < 4; i++) {
                want.loop();
            }
            due("the state", Due.stateOf(x), Due.stateOf(want));
        });
        test("Promise 5: no state is remembered", () -> {
            SplicedLoops x = Studios.full();
            x.load();
            Due.fails("undo()", Due.STATE, x::undo);
        });
        test("Promise 5: both save slots are empty", () -> {
            SplicedLoops x = Studios.full();
            x.load();
            Due.fails("restore(0)", Due.STATE, () -> x.restore(0));
            Due.fails("restore(1)", Due.STATE, () -> x.restore(1));
        });
        test("Promise 5: the text is kept", () -> {
            SplicedLoops x = Studios.full();
            int left = x.load();
            due("load() again", x.load(), left);
            due("clearText()", x.clearText(), 120);
        });
        test("Promise 5: a text that is no studio is refused, and kept", () -> {
            Due.refuses("load() of Zr2", Due.STATE, Studios::young, SplicedLoops::load);
            Due.refuses("load() of an empty text", Due.STATE, Studios::usual, SplicedLoops::load);
            Due.refuses("load() of 120 characters", Due.STATE, () -> {
                SplicedLoops x = Studios.full();
                x.clearText();
                Due.write(x, "Z" + "l".repeat(118) + "c");
                return x;
            }, SplicedLoops::load);
        });
        leftOut();
        doneInTexts();
    }

    private static void leaves(String text, int left, String state) {
        SplicedLoops x = Studios.withText(text);
        due("load() of " + text, x.load(), left);
        due("the state behind it", Due.stateOf(x), state);
    }

    private static void leftOut() {
        test("Promise 5: none is left out", () -> {
            leaves("Z", 0, "0 0 0 0 0 0 0 0 ");
            leaves("Zt001t999", 0, "0 0 1000 0 0 0 0 0 ");
        });
        test("Promise 5: a fourth reel is left out", () -> {
            SplicedLoops x = Studios.withText("Zr02r02r02r60");
            due("load()", x.load() + " " + x.about(0) + " " + x.reelOf(2, 0), "1 3 2");
        });
        test("Promise 5: a fifth loop is left out, and each one behind it", () -> {
            SplicedLoops x = Studios.withText("Z" + "l".repeat(119));
            due("load()", x.load() + " " + x.about(1), "115 4");
        });
        test("Promise 5: what does not exist is left out", () -> {
            leaves("Zp000009c000000v011m01w001", 5, "0 0 0 0 0 0 0 0 ");
            leaves("Zr05p000059p005009p105059", 3, "1 0 0 0 0 0 0 0 | reel 0 0 0 0 0");
            SplicedLoops x = Studios.withText("Zr05lc000006c000600c010005c100005v111m11w101w006");
            due("load()", x.load() + " " + x.about(6) + " " + x.about(5) + " " + x.about(2), "8 0 0 0");
        });
        test("Promise 5: what is out of its range is left out", () -> {
            leaves("Zr05p003029", 1, "1 0 0 0 0 0 0 0 | reel 0 0 0 0 0");
            leaves("Zr05w006", 1, "1 0 0 0 0 0 0 0 | reel 0 0 0 0 0");
        });
        test("Promise 5: a piece that cannot be cut is left out for each reason, and counts as refused nowhere", () -> {
            String sixCells = "c000001".repeat(6);
            SplicedLoops x = Studios.withText("Zr60l" + sixCells + "c000001");
            due("5: seven pieces", x.load() + " " + x.about(6) + " " + x.about(7), "1 6 0");
            x = Studios.withText("Zr60lc000048c000001");
            due("4: 49 cells", x.load() + " " + x.about(6) + " " + x.about(7), "1 48 0");
            x = Studios.withText("Zr60p003039lc000003c000004");
            due("3: not quiet at to", x.load() + " " + x.about(6) + " " + x.about(7), "2 0 0");
            x = Studios.withText("Zr60p003039lc000360c000460");
            due("2: not quiet at from", x.load() + " " + x.about(6) + " " + x.about(7), "2 0 0");
            x = Studios.withText("Zr60lc000000c000504");
            due("1: to not greater than from", x.load() + " " + x.about(6) + " " + x.about(7), "2 0 0");
        });
        test("Promise 5: a splice refused behind it is the first one counted", () -> {
            SplicedLoops x = Studios.withText("Zr05lc000000");
            for (int i = 0; i < 2; i++) {
                due("load()", x.load() + " " + x.about(7), "1 0");
                x.splice(0, 0, 0, 0);
                due("about(7)", x.about(7), 1);
            }
        });
    }

    private static void doneInTexts() {
        test("Promise 5: reels of 02 and of 60 cells", () -> {
            SplicedLoops x = Studios.withText("Zr02r60");
            due("load()", x.load() + " " + x.reelOf(0, 0) + " " + x.reelOf(1, 0), "0 2 60");
        });
        test("Promise 5: paint of the first and of the last cell", () -> {
            SplicedLoops x = Studios.withText("Zr60p000009p059591p001580");
            due("load()", x.load() + " " + x.sound(0, 0) + " " + x.sound(0, 59) + " " + x.reelOf(0, 3), "0 9 1 10");
        });
        test("Promise 5: splice from the first place and to the last one", () -> {
            SplicedLoops x = Studios.withText("Zr60llllc001260c300048");
            due("load()", x.load() + " " + x.loopOf(0, 0) + " " + x.loopOf(3, 0), "0 48 48");
        });
        test("Promise 5: speeds of 1 / 1 to 9 / 9", () -> {
            SplicedLoops x = Studios.withText("Zllllv099v119v291v311");
            due("load()", x.load(), 0);
            StringBuilder all = new StringBuilder();
            for (int l = 0; l < 4; l++) {
                all.append(x.loopOf(l, 1)).append(x.loopOf(l, 2)).append(' ');
            }
            due("p and q", all.toString(), "99 19 91 11 ");
        });
        test("Promise 5: muted with 1, not with 0", () -> {
            SplicedLoops x = Studios.withText("Zllllm01m31m11m10");
            due("load()", x.load() + " " + x.about(5), "0 9");
        });
        test("Promise 5: 001 and 999 ticks", () -> {
            SplicedLoops x = Studios.withText("Zt001");
            due("load()", x.load() + " " + x.about(2), "0 1");
            x = Studios.withText("Zt999t100t010");
            due("load()", x.load() + " " + x.about(2), "0 1109");
        });
        test("Promise 5: record of 01 and of 60 cells", () -> {
            SplicedLoops x = Studios.withText("Zr48p000479lc000048r60w101");
            due("load()", x.load() + " " + x.about(2) + " " + x.reelOf(1, 3), "0 1 9");
            x = Studios.withText("Zr48p000479lc000048r60w160");
            due("load()", x.load() + " " + x.about(2) + " " + x.reelOf(1, 3), "0 60 540");
        });
        test("Promise 5: commands are done from left to right", () -> {
            SplicedLoops x = Studios.withText("Zlr02l");
            due("load()", x.load() + " " + x.about(0) + " " + x.about(1), "0 1 2");
            x = Studios.withText("Zc000002lc000002r02c000002");
            due("load()", x.load() + " " + x.about(6), "2 2");
        });
    }

    public static void main(String[] args) {
        studios();
        numbers();
        errors();
        promise1();
        promise2();
        promise3();
        promise4();
        promise5();
        Due.close("TextEdgeTests");
    }
}
