/** Studios that tests begin with. */
final class Studios {
    private Studios() {
    }

    static SplicedLoops fresh() {
        return new SplicedLoops();
    }

    static SplicedLoops withText(String text) {
        SplicedLoops x = new SplicedLoops();
        Due.write(x, text);
        return x;
    }

    /** A studio behind the commands of a text; the text is empty again. */
    static SplicedLoops loaded(String text) {
        SplicedLoops x = withText(text);
        x.load();
        x.clearText();
        return x;
    }

    /**
     * Reel 0: 20 cells, 000 4444 000 9 000 222 000; reel 1: 9 cells, 0 77 000000.
     * Loop 0: cells 0 to 8 and 12 to 20 of reel 0 (16 cells); loop 1: all of reel 1; loop 2: empty.
     */
    static SplicedLoops usual() {
        SplicedLoops x = new SplicedLoops();
        x.reel(20);
        x.reel(9);
        x.paint(0, 3, 6, 4);
        x.paint(0, 10, 10, 9);
        x.paint(0, 14, 16, 2);
        x.paint(1, 1, 2, 7);
        x.loop();
        x.loop();
        x.loop();
        x.splice(0, 0, 0, 8);
        x.splice(0, 0, 12, 20);
        x.splice(1, 1, 0, 9);
        return x;
    }

    /** As usual(), with a text, a filled save slot 0, and behind some ticks. */
    static SplicedLoops busy() {
        SplicedLoops x = usual();
        Due.write(x, "Zl");
        x.save(0);
        x.ticks(2);
        return x;
    }

    /** Three actions behind a restore: three states are remembered, slot 1 is filled, the text is no studio. */
    static SplicedLoops young() {
        SplicedLoops x = usual();
        x.save(1);
        x.restore(1);
        Due.write(x, "Zr2");
        x.ticks(2);
        x.speed(1, 3, 2);
        x.splice(0, 0, 7, 9);
        return x;
    }

    /**
     * As usual(), with all that there can be of reels, loops, text, slots and remembered states.
     * Reel 2: 60 cells, 66 at the end; loop 2: its last ten cells; loop 3: four silent cells. Both loops 1 and 3 are muted.
     */
    static SplicedLoops full() {
        SplicedLoops x = usual();
        Due.write(x, "Zr20p002049llllc000020t007" + "t001".repeat(23) + "ll");
        x.reel(60);
        x.paint(2, 58, 59, 6);
        x.save(1);
        x.splice(2, 2, 0, 60);
        x.splice(2, 2, 50, 60);
        x.loop();
        x.splice(3, 1, 5, 9);
        x.speed(3, 2, 3);
        x.mute(3, true);
        x.ticks(5);
        x.save(0);
        x.speed(0, 3, 2);
        x.ticks(1);
        x.paint(1, 0, 8, 1);
        x.mute(1, true);
        x.record(1, 3);
        return x;
    }

    /** A reel of n silent cells and an empty loop. */
    static SplicedLoops silentReel(int n) {
        SplicedLoops x = new SplicedLoops();
        x.reel(n);
        x.loop();
        return x;
    }

    static SplicedLoops threeReels() {
        SplicedLoops x = new SplicedLoops();
        x.reel(2);
        x.reel(60);
        x.reel(30);
        return x;
    }

    static SplicedLoops fourLoops() {
        SplicedLoops x = new SplicedLoops();
        for (int l = 0; l < 4; l++) {
            x.loop();
        }
        return x;
    }

    /** Reels of the sounds told, each sound a digit; at most three. */
    static SplicedLoops reelsOf(String... sounds) {
        SplicedLoops x = new SplicedLoops();
        for (int r = 0; r < sounds.length; r++) {
            x.reel(sounds[r].length());
            paint(x, r, sounds[r]);
        }
        return x;
    }

    /** Loops of the sounds told, each on a reel of its own, so at most three. */
    static SplicedLoops loopsOf(String... sounds) {
        SplicedLoops x = reelsOf(sounds);
        for (int l = 0; l < sounds.length; l++) {
            x.loop();
            x.splice(l, l, 0, sounds[l].length());
        }
        return x;
    }

    /** Silent loops of so many cells, all cut off one reel. */
    static SplicedLoops silentLoops(int... cells) {
        SplicedLoops x = new SplicedLoops();
        x.reel(60);
        for (int l = 0; l < cells.length; l++) {
            x.loop();
            x.splice(l, 0, 0, cells[l]);
        }
        return x;
    }

    /** A loop of six pieces, 10 20 30 40 50 60, and the reel that they were cut off, one after the other. */
    static SplicedLoops sixPieces() {
        SplicedLoops x = new SplicedLoops();
        x.reel(60);
        x.loop();
        for (int v = 1; v <= 6; v++) {
            x.paint(0, 0, 0, v);
            x.paint(0, 1, 59, 0);
            x.splice(0, 0, 0, 2);
        }
        return x;
    }

    /** Lays the sounds told on the cells of a reel, a digit each; side by side those that are alike. */
    static void paint(SplicedLoops x, int r, String sounds) {
        int from = 0;
        for (int c = 1; c <= sounds.length(); c++) {
            if (c == sounds.length() || sounds.charAt(c) != sounds.charAt(from)) {
                x.paint(r, from, c - 1, sounds.charAt(from) - '0');
                from = c;
            }
        }
    }

    /** Lets so many ticks go by. */
    static void ticks(SplicedLoops x, int n) {
        int left = n;
        while (left > 0) {
            int some = Math.min(left, 999);
            x.ticks(some);
            left -= some;
        }
    }
}
