import java.util.function.IntToLongFunction;
import java.util.function.Supplier;
import java.util.function.ToLongFunction;

/** What the cases of each part of the document are written with. */
abstract class Case {
    static void due(String what, long got, long want) {
        Checks.due(what, got, want);
    }

    static void refused(String what, Supplier<SkipCity> made, ToLongFunction<SkipCity> call, long want) {
        Checks.refused(what, made, call, want);
    }

    /** The answers for what = 0, 1 and on, with BAD beside both ends. */
    static void answers(String of, long[] want, IntToLongFunction call) {
        for (int what = 0; what < want.length; what++) {
            due(of + ", what " + what, call.applyAsLong(what), want[what]);
        }
        due(of + ", what -1", call.applyAsLong(-1), -2);
        due(of + ", what " + want.length, call.applyAsLong(want.length), -2);
    }

    static void type(SkipCity x, int text, String bytes) {
        Checks.type(x, text, bytes);
    }
}
