import java.util.function.Consumer;
import java.util.function.Function;
import java.util.function.Supplier;

/** Counts answers that are as due and answers that are not. */
final class Due {
    static final Class<?> INDEX = IndexOutOfBoundsException.class;
    static final Class<?> ARGUMENT = IllegalArgumentException.class;
    static final Class<?> STATE = IllegalStateException.class;

    private static int right = 0;
    private static int wrong = 0;
    private static int tests = 0;
    private static String name = "";

    private Due() {
    }

    static void due(String call, Object got, Object want) {
        if (got.equals(want)) {
            right++;
        } else {
            wrong++;
            System.out.println(name + call + " answered " + got + ", due is " + want);
        }
    }

    /** A test of its own; its title names the promise or the section that it holds the class to. */
    static void test(String title, Runnable body) {
        tests++;
        int asked = right + wrong;
        name = title + ": ";
        try {
            body.run();
        } catch (RuntimeException e) {
            due("the test", e, "no exception");
        }
        if (right + wrong == asked) {
            due("the test", "nothing asked", "an answer");
        }
        name = "";
    }

    /** The answer of a call, or the name of what it throws. */
    static String answer(Supplier<?> call) {
        try {
            return String.valueOf(call.get());
        } catch (RuntimeException e) {
            return thrown(e.getClass());
        }
    }

    private static String thrown(Class<?> exception) {
        return "throws." + exception.getSimpleName();
    }

    /** The call throws that exception; what it leaves is not looked at. */
    static void fails(String what, Class<?> wanted, Supplier<?> call) {
        due(what, answer(call), thrown(wanted));
    }

    /** The call throws that exception, and an object on which it was called is as one on which it was not. */
    static void refuses(String what, Class<?> wanted, Supplier<SplicedLoops> maker, Consumer<SplicedLoops> call) {
        Supplier<SplicedLoops> called = () -> {
            SplicedLoops x = maker.get();
            due(what, answer(() -> {
                call.accept(x);
                return "nothing thrown";
            }), thrown(wanted));
            return x;
        };
        same(what + ": the object behind it", called, maker);
    }

    /** The call answers that, and an object on which it was called is as one on which it was not. */
    static void asks(String what, Object want, Supplier<SplicedLoops> maker, Function<SplicedLoops, Object> call) {
        Supplier<SplicedLoops> called = () -> {
            SplicedLoops x = maker.get();
            due(what, call.apply(x), want);
            return x;
        };
        same(what + ": the object behind it", called, maker);
    }

    /** Nothing that can be asked tells the objects of one maker from those of the other one. */
    static void same(String what, Supplier<SplicedLoops> one, Supplier<SplicedLoops> other) {
        due(what, picture(one), picture(other));
    }

    /** All that can be asked of an object. Each part is asked of a new one: no object is called more than 512 times. */
    private static String picture(Supplier<SplicedLoops> maker) {
        StringBuilder all = new StringBuilder();
        for (int undone = 0; undone < 14; undone++) {
            SplicedLoops x = maker.get();
            String left = "";
            for (int i = 0; i < undone; i++) {
                left = answer(x::undo);
            }
            all.append("\nundone ").append(undone).append(", left ").append(left).append(": ").append(stateOf(x));
            if (left.startsWith("throws")) {
                break;
            }
        }
        for (int slot = 0; slot < 2; slot++) {
            SplicedLoops x = maker.get();
            int s = slot;
            all.append("\nslot ").append(answer(() -> x.restore(s))).append(": ").append(stateOf(x));
        }
        SplicedLoops x = maker.get();
        all.append("\ntext with error ").append(x.errorPosition());
        all.append(" loads ").append(answer(x::load)).append(": ").append(stateOf(x));
        return all.append("\nlength ").append(x.clearText()).toString();
    }

    static String stateOf(SplicedLoops x) {
        StringBuilder all = new StringBuilder();
        for (int what = 0; what < 8; what++) {
            all.append(x.about(what)).append(' ');
        }
        int reels = x.about(0);
        for (int r = 0; r < reels; r++) {
            all.append("| reel").append(reelOf(x, r));
        }
        int loops = x.about(1);
        for (int l = 0; l < loops; l++) {
            all.append("| loop").append(loopOf(x, l));
        }
        return all.toString();
    }

    private static String reelOf(SplicedLoops x, int r) {
        StringBuilder all = new StringBuilder();
        int cells = x.reelOf(r, 0);
        for (int c = 0; c < cells; c++) {
            all.append(' ').append(x.sound(r, c));
        }
        return all.toString();
    }

    private static String loopOf(SplicedLoops x, int l) {
        StringBuilder all = new StringBuilder();
        for (int what = 0; what < 9; what++) {
            all.append(' ').append(x.loopOf(l, what));
        }
        all.append(':');
        int cells = x.loopOf(l, 0);
        for (int c = 0; c < cells; c++) {
            all.append(' ').append(x.cell(l, c));
        }
        return all.toString();
    }

    /** Appends all characters of a text. */
    static void write(SplicedLoops x, String text) {
        for (int i = 0; i < text.length(); i++) {
            x.append(text.charAt(i));
        }
    }

    static void close(String file) {
        String counted = tests == 0 ? "" : tests + " tests, ";
        System.out.println(file + ": " + counted + right + " answers as due, " + wrong + " not");
        if (wrong != 0) {
            System.exit(1);
        }
    }
}
