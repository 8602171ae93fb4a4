import java.util.function.Supplier;
import java.util.function.ToLongFunction;

/** What the tests of the document's sentences are written with: each sentence has a test of the edges it names. */
abstract class Edges extends Case {
    static final int LEAST_INT = Integer.MIN_VALUE;
    static final int MOST_INT = Integer.MAX_VALUE;
    static final int BAD = -2;
    static final int NOT = -3;
    static final int FULL = -4;
    static final int NULL = -11;
    static final int INDEX = -12;
    static final int CAST = -13;
    static final int STORE = -14;
    static final int SIZE = -15;

    interface IntCall {
        long of(SkipCity x, int v);
    }

    /** The sentence of the document, and its own test. */
    static void says(String section, String sentence, Runnable test) {
        Sentences.claim(section, sentence);
        int before = Checks.passed + Checks.failed;
        Checks.about = section + ": ";
        test.run();
        Checks.about = "";
        Checks.due("a check of: " + sentence, Checks.passed + Checks.failed > before ? 1 : 0, 1);
    }

    /** What the call answers on an object of its own. */
    static void answers(String what, Supplier<SkipCity> made, ToLongFunction<SkipCity> call, long want) {
        due(what, call.applyAsLong(made.get()), want);
    }

    /** Numbers that are refused, and change nothing. */
    static void refusedAt(String what, Supplier<SkipCity> made, IntCall call, long want, int... numbers) {
        for (int v : numbers) {
            refused(what + " " + v, made, x -> call.of(x, v), want);
        }
    }

    /** The least and the greatest number are taken; one beyond each and the ends of int are refused. */
    static void range(String what, Supplier<SkipCity> made, int least, int greatest, IntCall call, long want) {
        range(what, made, least, greatest, call, want, want, BAD);
    }

    static void range(String what, Supplier<SkipCity> made, int least, int greatest, IntCall call, long atLeast,
            long atGreatest, long refusal) {
        answers(what + " " + least, made, x -> call.of(x, least), atLeast);
        answers(what + " " + greatest, made, x -> call.of(x, greatest), atGreatest);
        refusedAt(what, made, call, refusal, least - 1, greatest + 1, LEAST_INT, MOST_INT);
    }

    /** The city after some calls more. */
    static Supplier<SkipCity> after(Supplier<SkipCity> made, ToLongFunction<SkipCity> call) {
        return () -> {
            SkipCity x = made.get();
            call.applyAsLong(x);
            return x;
        };
    }
}
