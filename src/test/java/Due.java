import java.util.NoSuchElementException;

/** Tells each answer that is not the one that is due. */
final class Due {
    interface Call { long of(); }

    static final String ARGUMENT = "throws.IllegalArgumentException";
    static final String STATE = "throws.IllegalStateException";
    static final String ELEMENT = "throws.NoSuchElementException";

    private static int count;
    private static int wrong;

    private Due() { }

    static long one(boolean b) { return b ? 1 : 0; }

    static void due(String what, long want, Call call) { due(what, Long.toString(want), call); }

    static void due(String what, boolean want, boolean got) { due(what, one(want), () -> one(got)); }

    static void due(String what, String want, Call call) {
        String got;
        try {
            got = Long.toString(call.of());
        } catch (IllegalArgumentException | IllegalStateException | NoSuchElementException e) {
            got = "throws." + e.getClass().getSimpleName();
        }
        count++;
        if (!got.equals(want)) {
            wrong++;
            System.out.println(what + " answered " + got + ", due is " + want);
        }
    }

    /** All looks from 0 on. */
    static void looks(String what, DiskPool pool, int... wants) {
        for (int i = 0; i < wants.length; i++) {
            int which = i;
            due(what + ": look(" + i + ")", wants[i], () -> pool.look(which));
        }
    }

    static void end() {
        System.out.println(count + " answers, " + wrong + " not as due");
        if (wrong > 0) System.exit(1);
    }
}
