import java.util.function.Consumer;
import java.util.function.Supplier;

/** Counts answers that are as due and answers that are not. */
final class Due {
    static int right = 0;
    static int wrong = 0;

    private Due() {
    }

    static void due(String call, Object got, Object want) {
        if (got.equals(want)) {
            right++;
        } else {
            wrong++;
            System.out.println(call + " answered " + got + ", due is " + want);
        }
    }

    /** The answer of a call, or the name of what it throws. */
    static String answer(Supplier<?> call) {
        try {
            return String.valueOf(call.get());
        } catch (RuntimeException e) {
            return "throws." + e.getClass().getSimpleName();
        }
    }

    /** The call throws that exception, and an object on which it was called is as one on which it was not. */
    static void refuses(String what, Class<?> wanted, Supplier<SplicedLoops> maker, Consumer<SplicedLoops> call) {
        SplicedLoops called = maker.get();
        String got = answer(() -> {
            call.accept(called);
            return "nothing thrown";
        });
        due(what, got, "throws." + wanted.getSimpleName());
        due(what + ": the object behind it", picture(called), picture(maker.get()));
    }

    /** All that can be asked of an object. Its states are undone, its slots restored and its text is emptied for it. */
    static String picture(SplicedLoops x) {
        StringBuilder all = new StringBuilder();
        all.append(stateOf(x));
        all.append(" error ").append(x.errorPosition());
        String left = answer(x::undo);
        for (int i = 0; i < 13 && !left.startsWith("throws"); i++) {
            all.append(" undo ").append(left).append(' ').append(x.about(2)).append(' ').append(x.about(6));
            left = answer(x::undo);
        }
        for (int slot = 0; slot < 2; slot++) {
            int s = slot;
            all.append(" slot ").append(answer(() -> x.restore(s))).append(' ').append(x.about(6));
        }
        return all.append(" text ").append(x.clearText()).toString();
    }

    static String stateOf(SplicedLoops x) {
        StringBuilder all = new StringBuilder();
        for (int what = 0; what < 8; what++) {
            all.append(x.about(what)).append(' ');
        }
        for (int r = 0; r < x.about(0); r++) {
            all.append("| reel");
            for (int c = 0; c < x.reelOf(r, 0); c++) {
                all.append(' ').append(x.sound(r, c));
            }
        }
        for (int l = 0; l < x.about(1); l++) {
            all.append("| loop");
            for (int what = 0; what < 9; what++) {
                all.append(' ').append(x.loopOf(l, what));
            }
            all.append(':');
            for (int c = 0; c < x.loopOf(l, 0); c++) {
                all.append(' ').append(x.cell(l, c));
            }
        }
        return all.toString();
    }

    /** Appends all characters of a text. */
    static void write(SplicedLoops x, String text) {
        for (int i = 0; i < text.length(); i++) {
            x.append(text.charAt(i));
        }
    }

    static void close(String name) {
        System.out.println(name + ": " + right + " answers as due, " + wrong + " not");
        if (wrong != 0) {
            System.exit(1);
        }
    }
}
