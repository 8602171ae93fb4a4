import java.util.function.Supplier;
import java.util.function.ToLongFunction;

/** Counts what was checked, and prints what is not as it is due. */
final class Checks {
    static int passed = 0;
    static int failed = 0;
    // What stands ahead of each line that is printed.
    static String about = "";

    private Checks() { }

    static void due(String what, long got, long want) {
        if (got == want) {
            passed++;
        } else {
            failed++;
            System.out.println(about + what + " answered " + got + ", due is " + want);
        }
    }

    static void due(String what, String got, String want) {
        if (got.equals(want)) {
            passed++;
        } else {
            failed++;
            System.out.println(about + what + " is not as it was: " + firstDifference(got, want));
        }
    }

    private static String firstDifference(String got, String want) {
        String[] is = got.split(" ");
        String[] was = want.split(" ");
        int i = 0;
        while (i < is.length && i < was.length && is[i].equals(was[i])) {
            i++;
        }
        return "answer " + i + " of the snapshot";
    }

    /**
     * A refused call answers as told and changes nothing; a FINDING changes count() 8 alone.
     */
    static void refused(String what, Supplier<SkipCity> made, ToLongFunction<SkipCity> call, long want) {
        refused(what, made, call, want, want <= -11 && want >= -15 ? (int) (-10 - want) : 0);
    }

    /** As above, where the answer itself does not tell the number of the FINDING (0: none). */
    static void refused(String what, Supplier<SkipCity> made, ToLongFunction<SkipCity> call, long want, int finding) {
        SkipCity x = made.get();
        int before = x.count(8);
        due(what, call.applyAsLong(x), want);
        due(what + ", then count(8)", x.count(8), finding == 0 ? before : finding);
        due(what + ", then all else", Snapshot.of(() -> {
            SkipCity y = made.get();
            call.applyAsLong(y);
            return y;
        }), Snapshot.of(made));
    }

    static void type(SkipCity x, int text, String bytes) {
        for (int i = 0; i < bytes.length(); i++) {
            due("type(" + text + ", " + (int) bytes.charAt(i) + ")", x.type(text, bytes.charAt(i)) > 0 ? 1 : 0, 1);
        }
    }
}
