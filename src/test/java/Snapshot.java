import java.util.function.Supplier;
import java.util.function.ToLongFunction;

/**
 * All that can be asked of a city, but for count() 8, as asking of SHEETS changes it. It is asked in rows, each of an
 * object made anew, so that none is asked more often than the document allows; the last rows change what they ask.
 */
final class Snapshot {
    private static final int IN_A_ROW = 300;
    private static final int[] LATER = {1, 1, 1, 1, 1, 1, 1, 1, 1, 1, 1, 1, 1, 1, 16, 70, 100, 100, 50};

    private final Supplier<SkipCity> made;
    private final StringBuilder all = new StringBuilder();
    private SkipCity x;
    private int asked;

    private Snapshot(Supplier<SkipCity> made) {
        this.made = made;
        anew();
    }

    static String of(Supplier<SkipCity> made) {
        Snapshot s = new Snapshot(made);
        s.city();
        s.lets();
        s.texts();
        s.sorts();
        s.swaps();
        s.sheets();
        s.told();
        s.later();
        s.full();
        return s.all.toString();
    }

    private void anew() {
        x = made.get();
        // Whatever the latest FINDING was, it is SIZE now.
        x.sheet(0, 0, -1);
        asked = 1;
    }

    private long ask(ToLongFunction<SkipCity> question) {
        if (asked == IN_A_ROW) {
            anew();
        }
        return askOn(question);
    }

    /** Asks the same object again, even if the row gets longer. */
    private long askOn(ToLongFunction<SkipCity> question) {
        asked++;
        long answer = question.applyAsLong(x);
        all.append(answer).append(' ');
        return answer;
    }

    private void city() {
        for (int n = 0; n <= 11; n++) {
            int what = n;
            if (n != 8) ask(c -> c.count(what));
        }
        for (int i = 0; i < x.count(1); i++) {
            int kerb = i;
            for (int n = 0; n <= 6; n++) {
                int what = n;
                ask(c -> c.about(kerb, what));
            }
        }
        for (int i = 0; i < x.count(2); i++) {
            int skip = i;
            for (int n = 0; n <= 2; n++) {
                int what = n;
                ask(c -> c.where(skip, what));
            }
        }
        ask(c -> c.digest());
    }

    private void lets() {
        for (int i = 0; i < x.count(6); i++) {
            int let = i;
            for (int n = 0; n <= 8; n++) {
                int what = n;
                ask(c -> c.letIs(let, what));
            }
            for (int n = 0; n <= 2; n++) {
                int what = n;
                ask(c -> c.weighs(let, what));
            }
            ask(c -> c.over(let, 0));
            ask(c -> c.over(let, 1));
            ask(c -> c.taxed(let));
            ask(c -> c.lamps(let));
            ask(c -> c.bill(let, 1));
            ask(c -> c.guess(let));
            ask(c -> c.find(let, 1, 9));
        }
        ask(c -> c.lapsed());
        ask(c -> c.forgotten(0));
        ask(c -> c.forgets(0, 0));
        for (int n = 0; n <= 5; n++) {
            int lorry = n;
            ask(c -> c.lost(lorry, 0, 0));
            ask(c -> c.lost(lorry, 0, 2));
            ask(c -> c.foretell(lorry, 4, 100, 1));
            ask(c -> c.foretell(lorry, 4, 100, 3));
        }
    }

    private void texts() {
        for (int n = 0; n <= 5; n++) {
            int what = n;
            for (int b = 0; b <= 3; b++) {
                int borough = b;
                ask(c -> c.law(borough, what));
            }
            ask(c -> c.tax(what, 0));
            ask(c -> c.tax(what, 399));
            ask(c -> c.fault(what));
        }
    }

    private void sorts() {
        for (int i = 0; i < x.count(6); i++) {
            int let = i;
            for (int n = 0; n <= 5; n++) {
                int sort = n;
                ask(c -> c.sorts(let, sort, 0));
            }
            ask(c -> c.sorts(let, 0, 1));
            ask(c -> c.sorts(let, 1, 2));
        }
    }

    private void swaps() {
        for (int v = 1; v <= 3; v++) {
            int n = v;
            ask(c -> c.plan(n));
            for (int w = 0; w < n; w++) {
                int lorry = w;
                ask(c -> c.miles(n, lorry));
                ask(c -> c.tour(n, lorry, 0));
                ask(c -> c.tour(n, lorry, 1));
            }
        }
        ask(c -> c.bound());
    }

    private void sheets() {
        for (int n = 0; n <= 3; n++) {
            int s = n;
            for (int f = 0; f <= 2; f++) {
                int form = f;
                anew();
                boolean items = askOn(c -> c.get(s, form, 0)) != Integer.MIN_VALUE;
                askOn(c -> c.count(8));
                for (int v = 1; items && v <= 8; v++) {
                    int i = v;
                    askOn(c -> c.get(s, form, i));
                }
                askOn(c -> c.get(s, form, 89));
            }
        }
    }

    /** What is answered only when it is told anew. */
    private void told() {
        anew();
        for (int n = 0; n < 6; n++) {
            int tip = n;
            askOn(c -> c.drift(tip, 0));
        }
        askOn(c -> c.reach(400));
        askOn(c -> c.asOf(0));
        askOn(c -> c.asOf(-1));
        for (int n = 0; n <= 14; n++) {
            int day = n;
            askOn(c -> c.holiday(day, true));
        }
        for (int n = 0; n <= 3; n++) {
            int s = n;
            askOn(c -> c.lose(s));
        }
    }

    /** What shows on DAYS that come, but for their number. */
    private void later() {
        anew();
        for (int days : LATER) {
            askOn(c -> c.pass(days));
            for (int n = 0; n < 4; n++) {
                int kerb = n;
                askOn(c -> c.about(kerb, 6));
            }
            askOn(c -> c.lapsed());
            askOn(c -> c.forgotten(3));
        }
    }

    /** How many more of each there may be. */
    private void full() {
        untilRefused(c -> c.kerb(0, 1, 1, 9));
        untilRefused(c -> c.skip(1));
        untilRefused(c -> c.tip(1, 1, 1, 1, 1, 1));
        untilRefused(c -> c.permit(0, 399, 399));
        untilRefused(c -> c.task(0, 1, 0));
        for (int n = 0; n <= 4; n++) {
            int text = n;
            untilRefused(c -> c.type(text, 's'));
        }
        for (int n = 0; n < Math.min(3, x.count(6)); n++) {
            int let = n;
            untilRefused(c -> c.pass(1) + 1000 * c.weigh(let, 0, 9, c.count(0)));
            untilRefused(c -> c.draw(let, 60, 0));
            untilRefused(c -> c.fetch(let, 0, 0));
        }
    }

    private void untilRefused(ToLongFunction<SkipCity> call) {
        anew();
        int more = 0;
        while (more <= 60 && askOn(call) >= 0) {
            more++;
        }
    }
}
