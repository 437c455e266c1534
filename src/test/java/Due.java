import java.util.NoSuchElementException;

/** Tells each answer that is not the one that is due. */
final class Due {
    interface Call { long of(); }

    static final String ARGUMENT = "throws.IllegalArgumentException";
    static final String STATE = "throws.IllegalStateException";
    static final String ELEMENT = "throws.NoSuchElementException";

    private static int count;
    private static int wrong;
    private static String sentence = "";

    private Due() { }

    static long one(boolean b) { return b ? 1 : 0; }

    static void due(String what, long want, Call call) { due(what, Long.toString(want), call); }

    static void due(String what, boolean want, boolean got) { due(what, one(want), () -> one(got)); }

    static void due(String what, String want, Call call) { compare(what, want, answer(call)); }

    private static String answer(Call call) {
        try {
            return Long.toString(call.of());
        } catch (IllegalArgumentException | IllegalStateException | NoSuchElementException e) {
            return "throws." + e.getClass().getSimpleName();
        }
    }

    private static void compare(String what, String want, String got) {
        count++;
        if (!got.equals(want)) {
            wrong++;
            System.out.println(sentence + what + " answered " + got + ", due is " + want);
        }
    }

    /** A call that is refused or throws, and leaves all as it was. */
    static void refused(String what, long want, DiskPool pool, Call call) {
        refused(what, Long.toString(want), pool, call);
    }

    static void refused(String what, String want, DiskPool pool, Call call) {
        String before = Pools.state(pool);
        due(what, want, call);
        compare(what + ": the state behind it", before, Pools.state(pool));
    }

    /** A sentence of the document that names a boundary case, with the test that is its own. */
    static void holds(String words, Runnable test) {
        sentence = "\"" + words + "\": ";
        test.run();
        sentence = "";
    }

    /** All looks from 0 on. */
    static void looks(String what, DiskPool pool, int... wants) {
        for (int i = 0; i < wants.length; i++) {
            int which = i;
            due(what + ": look(" + i + ")", wants[i], () -> pool.look(which));
        }
    }

    static void end() {
        System.out.println(count + " answers, " + wrong + " not as due");
        if (wrong > 0) System.exit(1);
    }
}
