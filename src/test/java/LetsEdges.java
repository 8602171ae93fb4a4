import java.util.function.Supplier;
import java.util.function.ToLongFunction;

/** The edges of lets: terms 3, promises 17 to 25. */
final class LetsEdges extends Edges {
    static void run() {
        whatLetsAre();
        whatIsSeen();
        begin();
        end();
        seen();
    }

    /**
     * KERB 0 (30 FEET, BOROUGH 0) and KERB 1 (30 FEET, BOROUGH 1) with PERMITS for DAYS 3 to 9, SKIPS of the sizes
     * told, on DAY 3.
     */
    private static SkipCity street(int... sizes) {
        SkipCity x = new SkipCity();
        x.kerb(0, 40, 50, 30);
        x.kerb(1, 60, 50, 30);
        x.permit(0, 3, 9);
        x.permit(1, 3, 9);
        for (int size : sizes) x.skip(size);
        x.pass(3);
        return x;
    }

    /** SKIPS 0, 1 (of SIZE 6) stand in LETS 0, 1 at KERB 0, to DAY 5; 2 to 4 (of SIZES 6, 6, 2) are in THE YARD. */
    private static SkipCity two() {
        SkipCity x = street(6, 6, 6, 6, 2);
        x.let(0, 0, 4, 5);
        x.let(1, 0, 5, 5);
        return x;
    }

    /** 60 LETS of SKIPS 0 and 1 at KERB 0; LET 59, of SKIP 1, stands, 0 and 2 (SIZE 6), 3 (SIZE 2) do not. */
    private static SkipCity full() {
        return lets(60);
    }

    private static SkipCity lets(int n) {
        SkipCity x = street(6, 6, 6, 2);
        for (int i = 0; i < n; i++) {
            x.let(i % 2, 0, 0, 9);
            if (i < n - 1) x.fetch(i, 0, 0);
        }
        return x;
    }

    private static Supplier<SkipCity> later(Supplier<SkipCity> made, int days) {
        return after(made, x -> x.pass(days));
    }

    private static Supplier<SkipCity> byLaw(Supplier<SkipCity> made, int borough, String law) {
        return after(made, x -> {
            for (int i = 0; i < law.length(); i++) x.type(borough, law.charAt(i));
            return 0;
        });
    }

    private static void whatLetsAre() {
        says("T3", "LETS, 60 at most: a SKIP (that is in THE YARD, and not in a LET) comes to a KERB for a TRADE (0 to 5) at "
            + "the DAY, to be fetched on a LAST DAY: NOT, if the KERB is REFUSED, has no PERMIT for the DAY, has no room "
            + "(FEET of SKIPS that stand there, and of this one, above its own), or by LAW none comes that DAY.", () -> {
                answers("the first LET", () -> street(6), x -> x.let(0, 0, 0, 9), 0);
                answers("the last LET", () -> lets(59), x -> x.let(2, 0, 0, 9), 59);
                refused("one LET more", LetsEdges::full, x -> x.let(2, 0, 0, 9), FULL);
                refused("a SKIP in a LET", LetsEdges::two, x -> x.let(0, 1, 0, 9), BAD);
                range("TRADE", () -> street(6), 0, 5, (x, v) -> x.let(0, 0, v, 9), 0);
                range("LAST DAY", () -> street(6), 3, 399, (x, v) -> x.let(0, 0, 0, v), 0);
                whyNot();
            });
        says("T3", "It stands there till it is FETCHED (or SWAPPED).", () -> {
            SkipCity x = two();
            x.pass(96);
            for (int i = 0; i < 3; i++) x.pass(100);
            due("DAY", x.count(0), 399);
            x.refuse(0, true);
            due("SKIP 0 stands yet", x.where(0, 1), 0);
            due("SKIP 1 too", x.where(1, 2), 1);
            due("both LAPSED", x.lapsed(), 2);
            due("FETCHED", x.fetch(0, 0, 0), 1);
            due("SKIP 0 does not", x.where(0, 1), -1);
            due("SKIP 1 does", x.where(1, 1), 0);
            SkipCity y = two();
            due("SWAPPED", y.swap(1, 0, 0, 2, 9), 2);
            due("SKIP 1 does not", y.where(1, 1), -1);
            due("SKIP 2 does", y.where(2, 1), 0);
        });
        says("T3", "FETCHED at the DAY by a LORRY (0 to 5), with a picture's height (0 to 200 hundredths of full): the SKIP is "
            + "in THE YARD again; NOT, if by LAW none is fetched that DAY.", () -> {
                range("LORRY", LetsEdges::two, 0, 5, (x, v) -> x.fetch(0, v, 0), 1);
                range("height", LetsEdges::two, 0, 200, (x, v) -> x.fetch(0, 0, v), 1);
                SkipCity x = two();
                x.fetch(0, 0, 0);
                due("in THE YARD", x.where(0, 1), -1);
                due("in no LET", x.where(0, 2), -1);
                due("so many are", x.count(3), 4);
                due("it may be let again", x.let(0, 1, 0, 9), 2);
                refused("by LAW", byLaw(later(LetsEdges::two, 2), 0, "e"), c -> c.fetch(0, 0, 0), NOT);
                answers("by another's LAW", byLaw(later(LetsEdges::two, 2), 1, "e"), c -> c.fetch(0, 0, 0), 1);
            });
        says("T3", "The LET has a LOAD then: its LORRY, DAY, height.", () -> {
            for (int end = 0; end <= 1; end++) {
                SkipCity x = two();
                answers("none yet", new long[] {0, 0, 4, 3, 5, 3, -1, -1, -1}, what -> x.letIs(0, what));
                due("no BILL yet", x.bill(0, 0), NOT);
                x.pass(1);
                due("its end", end == 0 ? x.fetch(0, 5, 200) : x.swap(0, 5, 200, 2, 9), end == 0 ? 1 : 2);
                answers("its LOAD", new long[] {0, 0, 4, 3, 5, 3, 4, 5, 200}, what -> x.letIs(0, what));
                due("a BILL", x.bill(0, 1), 10);
                x.pass(1);
                due("the DAY of the LOAD stays", x.letIs(0, 6), 4);
            }
        });
        says("T3", "SWAPPED: as FETCHED, and another SKIP of the same SIZE from THE YARD begins a LET there for the same "
            + "TRADE, to a LAST DAY; all this, or nothing.", LetsEdges::swapped);
    }

    /** Each matter alone, and just short of it. */
    private static void whyNot() {
        refused("REFUSED", after(() -> street(6), x -> x.refuse(0, true)), x -> x.let(0, 0, 0, 9), NOT);
        answers("another KERB REFUSED", after(() -> street(6), x -> x.refuse(1, true)), x -> x.let(0, 0, 0, 9), 0);
        int[] days = {0, 1, 2, 3, 9, 10, 11};
        for (int day : days) {
            Supplier<SkipCity> on = () -> {
                SkipCity x = new SkipCity();
                x.kerb(0, 0, 0, 30);
                x.permit(0, 3, 9);
                x.skip(6);
                if (day > 0) x.pass(day);
                return x;
            };
            answers("PERMIT from 3 to 9, on DAY " + day, on, x -> x.let(0, 0, 0, 399), day >= 3 && day <= 9 ? 0 : NOT);
        }
        // 30 FEET: SIZES 6 and 12 take 10 and 16.
        answers("all FEET but 4", after(() -> street(6, 12), x -> x.let(0, 0, 0, 9)), x -> x.let(1, 0, 0, 9), 1);
        answers("all FEET", after(() -> street(10, 12), x -> x.let(0, 0, 0, 9)), x -> x.let(1, 0, 0, 9), 1);
        refused("a foot more", after(() -> street(11, 12), x -> x.let(0, 0, 0, 9)), x -> x.let(1, 0, 0, 9), NOT);
        answers("at another KERB", after(() -> street(11, 12), x -> x.let(0, 0, 0, 9)), x -> x.let(1, 1, 0, 9), 1);
        Supplier<SkipCity> freed = after(after(() -> street(12, 12), x -> x.let(0, 0, 0, 9)), x -> x.fetch(0, 0, 0));
        answers("where one stood", freed, x -> x.let(1, 0, 0, 9), 1);
        refused("at the week's end", byLaw(later(() -> street(6), 2), 0, "e"), x -> x.let(0, 0, 0, 9), NOT);
        Supplier<SkipCity> holiday = byLaw(after(() -> street(6), x -> x.holiday(3, true)), 0, "h");
        refused("on a HOLIDAY", holiday, x -> x.let(0, 0, 0, 9), NOT);
        answers("by another's LAW", holiday, x -> x.let(0, 1, 0, 9), 0);
    }

    private static void swapped() {
        SkipCity x = two();
        due("FEET are free", x.about(0, 5), 10);
        due("the new LET", x.swap(0, 3, 77, 2, 399), 2);
        answers("the old LET", new long[] {0, 0, 4, 3, 5, 3, 3, 3, 77}, what -> x.letIs(0, what));
        answers("the new LET", new long[] {2, 0, 4, 3, 399, 3, -1, -1, -1}, what -> x.letIs(2, what));
        answers("the old SKIP", new long[] {6, -1, -1}, what -> x.where(0, what));
        answers("the new SKIP", new long[] {6, 0, 2}, what -> x.where(2, what));
        due("as many FEET", x.about(0, 5), 10);
        due("as many in THE YARD", x.count(3), 3);
        Supplier<SkipCity> narrow = () -> {
            SkipCity y = new SkipCity();
            y.kerb(0, 0, 0, 16);
            y.permit(0, 0, 0);
            y.skip(12);
            y.skip(12);
            y.let(0, 0, 0, 0);
            return y;
        };
        answers("at a KERB without room", narrow, c -> c.swap(0, 0, 0, 1, 0), 1);
        refused("of another SIZE: nothing", LetsEdges::two, c -> c.swap(0, 0, 0, 4, 9), NOT);
        refused("KERB REFUSED: nothing", after(LetsEdges::two, c -> c.refuse(0, true)), c -> c.swap(0, 0, 0, 2, 9), NOT);
        refused("without a PERMIT: nothing", later(LetsEdges::two, 7), c -> c.swap(0, 0, 0, 2, 99), NOT);
        refused("FULL: nothing", LetsEdges::full, c -> c.swap(59, 0, 0, 0, 9), FULL);
    }

    private static void whatIsSeen() {
        says("T3", "A SCAN of a LET: at a DAY (that DAY) it was seen; its beginning is a SCAN, too.", () -> {
            SkipCity x = two();
            due("its beginning", x.letIs(0, 5), 3);
            x.pass(1);
            due("not seen since", x.letIs(0, 5), 3);
            due("SCAN", x.scan(0), 1);
            due("seen", x.letIs(0, 5), 4);
            due("the other not", x.letIs(1, 5), 3);
            x.pass(2);
            due("SCAN", x.scan(0), 1);
            due("the latest", x.letIs(0, 5), 6);
            x.fetch(0, 0, 0);
            due("stays when it is FETCHED", x.letIs(0, 5), 6);
        });
        says("T3", "LAPSED are LETS whose SKIP stands at a KERB without a PERMIT for the DAY.", () -> {
            answers("the last DAY of the PERMIT", later(LetsEdges::two, 6), x -> x.lapsed(), 0);
            answers("the DAY behind it", later(LetsEdges::two, 7), x -> x.lapsed(), 2);
            SkipCity x = later(LetsEdges::two, 7).get();
            x.fetch(0, 0, 0);
            due("one FETCHED", x.lapsed(), 1);
            x.refuse(0, true);
            due("REFUSED or not", x.lapsed(), 1);
            x.permit(0, 11, 11);
            due("a PERMIT for the next DAY", x.lapsed(), 1);
            x.permit(0, 10, 10);
            due("a PERMIT for the DAY", x.lapsed(), 0);
            x.pass(2);
            due("it ended", x.lapsed(), 1);
            answers("an empty KERB", later(() -> street(6), 7), c -> c.lapsed(), 0);
        });
        says("T3", "FORGOTTEN are LETS whose SKIP stands, is past its LAST DAY, and whose latest SCAN is more than so many "
            + "DAYS ago.", () -> {
                answers("on the LAST DAY", later(LetsEdges::two, 2), x -> x.forgotten(0), 0);
                answers("past it", later(LetsEdges::two, 3), x -> x.forgotten(0), 2);
                answers("3 DAYS ago is more than 2", later(LetsEdges::two, 3), x -> x.forgotten(2), 2);
                answers("3 DAYS ago is not more than 3", later(LetsEdges::two, 3), x -> x.forgotten(3), 0);
                SkipCity x = later(LetsEdges::two, 3).get();
                x.scan(1);
                due("scanned that DAY", x.forgotten(0), 1);
                x.pass(1);
                due("a DAY ago is more than 0", x.forgotten(0), 2);
                due("and not more than 1", x.forgotten(1), 1);
                x.fetch(0, 0, 0);
                due("FETCHED", x.forgotten(1), 0);
                SkipCity y = street(6);
                y.let(0, 0, 0, 398);
                for (int i = 0; i < 3; i++) y.pass(100);
                y.pass(95);
                due("DAY 398 is its LAST", y.forgotten(0), 0);
                y.pass(1);
                due("DAY 399 is past it: 396 DAYS", y.forgotten(395), 1);
                due("not more than 396", y.forgotten(396), 0);
            });
        says("T3", "LAMPS of a LET: LAMPS by LAW (as it is now) for each night: of DAYS from its beginning to the one it was "
            + "FETCHED less 1 (the DAY less 1, if it stands yet).", () -> {
                SkipCity x = two();
                int[] nights = {0, 1, 2, 3};
                for (int n : nights) {
                    due("nights till the DAY", x.lamps(0), 2 * n);
                    if (n < 3) x.pass(1);
                }
                x.fetch(0, 0, 0);
                x.pass(5);
                due("nights till it was FETCHED", x.lamps(0), 6);
                due("the other stands yet", x.lamps(1), 16);
                type(x, 0, "l9");
                due("by LAW as it is now", x.lamps(0), 27);
                x.wipe(0);
                type(x, 0, "l0");
                due("no LAMPS", x.lamps(1), 0);
                SkipCity y = two();
                y.fetch(0, 0, 0);
                y.pass(1);
                due("FETCHED on the DAY it began", y.lamps(0), 0);
            });
    }

    private static void begin() {
        says("17", "`int let(int skip, int kerb, int trade, int last)`: A LET begins: its number.", () -> {
            SkipCity x = street(6, 6, 6);
            due("let", x.let(2, 0, 5, 3), 0);
            due("let", x.let(0, 1, 0, 399), 1);
            due("let", x.let(1, 0, 3, 9), 2);
            due("how many", x.count(6), 3);
            answers("LET 0", new long[] {2, 0, 5, 3, 3, 3, -1, -1, -1}, what -> x.letIs(0, what));
            answers("LET 1", new long[] {0, 1, 0, 3, 399, 3, -1, -1, -1}, what -> x.letIs(1, what));
            SkipCity y = lets(59);
            due("the last number", y.let(2, 0, 0, 9), 59);
            due("how many", y.count(6), 60);
        });
        says("17", "BAD: also a SKIP that stands, a LAST DAY ahead of the DAY; NOT; FULL.", () -> {
            refusedAt("SKIP", LetsEdges::two, (x, v) -> x.let(v, 1, 0, 9), BAD, -1, 5, LEAST_INT, MOST_INT);
            refusedAt("KERB", LetsEdges::two, (x, v) -> x.let(2, v, 0, 9), BAD, -1, 2, LEAST_INT, MOST_INT);
            refusedAt("TRADE", LetsEdges::two, (x, v) -> x.let(2, 0, v, 9), BAD, -1, 6, LEAST_INT, MOST_INT);
            refusedAt("LAST DAY", LetsEdges::two, (x, v) -> x.let(2, 0, 0, v), BAD, 2, 0, -1, 400, LEAST_INT, MOST_INT);
            refused("a SKIP that stands", LetsEdges::two, x -> x.let(1, 1, 0, 9), BAD);
            ToLongFunction<SkipCity> well = x -> x.let(2, 0, 0, 99);
            Supplier<SkipCity> no = after(LetsEdges::full, x -> x.refuse(0, true));
            badAheadOf("REFUSED", after(LetsEdges::two, x -> x.refuse(0, true)), well, NOT);
            badAheadOf("no PERMIT", later(LetsEdges::two, 7), well, NOT);
            badAheadOf("no room", after(LetsEdges::two, x -> x.let(3, 0, 0, 9)), well, NOT);
            badAheadOf("by LAW", byLaw(later(LetsEdges::two, 2), 0, "e"), well, NOT);
            badAheadOf("FULL", LetsEdges::full, well, FULL);
            refused("REFUSED ahead of FULL", no, well, NOT);
            refused("no PERMIT ahead of FULL", later(LetsEdges::full, 7), well, NOT);
            refused("by LAW ahead of FULL", byLaw(later(LetsEdges::full, 2), 0, "e"), well, NOT);
            Supplier<SkipCity> narrow = () -> {
                SkipCity x = new SkipCity();
                x.kerb(0, 0, 0, 10);
                x.permit(0, 0, 0);
                x.skip(6);
                x.skip(7);
                for (int i = 0; i < 60; i++) {
                    x.let(0, 0, 0, 0);
                    x.fetch(i, 0, 0);
                }
                return x;
            };
            refused("no room ahead of FULL", narrow, x -> x.let(1, 0, 0, 0), NOT);
            refused("FULL with room", narrow, x -> x.let(0, 0, 0, 0), FULL);
        });
    }

    /** What is NOT, or FULL, with well told numbers is BAD with any that is not. */
    private static void badAheadOf(String what, Supplier<SkipCity> made, ToLongFunction<SkipCity> well, long want) {
        refused(what, made, well, want);
        refused("BAD SKIP ahead of " + what, made, x -> x.let(40, 0, 0, 99), BAD);
        refused("a SKIP that stands ahead of " + what, made, x -> x.let(1, 0, 0, 99), BAD);
        refused("BAD KERB ahead of " + what, made, x -> x.let(2, 24, 0, 99), BAD);
        refused("BAD TRADE ahead of " + what, made, x -> x.let(2, 0, 6, 99), BAD);
        refused("BAD LAST DAY ahead of " + what, made, x -> x.let(2, 0, 0, 2), BAD);
    }

    private static void end() {
        says("20", "`int fetch(int let, int lorry, int height)`: FETCHED: 1.", () -> {
            answers("fetch", LetsEdges::two, x -> x.fetch(0, 0, 0), 1);
            answers("past its LAST DAY", later(LetsEdges::two, 90), x -> x.fetch(1, 5, 200), 1);
            answers("at a KERB that is REFUSED", after(LetsEdges::two, x -> x.refuse(0, true)), x -> x.fetch(1, 5, 200), 1);
            answers("when LETS are FULL", LetsEdges::full, x -> x.fetch(59, 5, 200), 1);
        });
        says("20", "BAD: LORRY, height; NOT: its SKIP does not stand, or by LAW.", () -> {
            refusedAt("LET", LetsEdges::two, (x, v) -> x.fetch(v, 0, 0), BAD, -1, 2, LEAST_INT, MOST_INT);
            refusedAt("LORRY", LetsEdges::two, (x, v) -> x.fetch(0, v, 0), BAD, -1, 6, LEAST_INT, MOST_INT);
            refusedAt("height", LetsEdges::two, (x, v) -> x.fetch(0, 0, v), BAD, -1, 201, LEAST_INT, MOST_INT);
            Supplier<SkipCity> fetched = after(LetsEdges::two, x -> x.fetch(0, 1, 1));
            Supplier<SkipCity> swapped = after(LetsEdges::two, x -> x.swap(0, 1, 1, 2, 9));
            Supplier<SkipCity> again = after(fetched, x -> x.let(0, 0, 1, 9));
            Supplier<SkipCity> law = byLaw(later(LetsEdges::two, 2), 0, "e");
            int n = 0;
            for (Supplier<SkipCity> made : java.util.List.of(fetched, swapped, again, law)) {
                n++;
                refused("NOT " + n, made, x -> x.fetch(0, 0, 0), NOT);
                refused("BAD LORRY ahead of NOT " + n, made, x -> x.fetch(0, 6, 0), BAD);
                refused("BAD height ahead of NOT " + n, made, x -> x.fetch(0, 0, 201), BAD);
            }
        });
        says("21", "`int swap(int let, int lorry, int height, int skip, int last)`: SWAPPED: the new LET's number.", () -> {
            answers("swap", LetsEdges::two, x -> x.swap(0, 0, 0, 2, 3), 2);
            answers("swap the other", LetsEdges::two, x -> x.swap(1, 5, 200, 3, 399), 2);
            answers("the last LET", () -> lets(59), x -> x.swap(58, 5, 200, 2, 399), 59);
            SkipCity x = two();
            due("swap", x.swap(0, 0, 0, 2, 9), 2);
            due("swap the new one for the first", x.swap(2, 0, 0, 0, 9), 3);
            due("how many", x.count(6), 4);
        });
        says("21", "BAD: as fetch(), no such SKIP, a LAST DAY as in let(); NOT: as fetch(), or the SKIP stands, is of another "
            + "SIZE, the KERB is REFUSED, or has no PERMIT for the DAY; FULL.", LetsEdges::swapRefused);
    }

    private static void swapRefused() {
        refusedAt("LET", LetsEdges::two, (x, v) -> x.swap(v, 0, 0, 2, 9), BAD, -1, 2, LEAST_INT, MOST_INT);
        refusedAt("LORRY", LetsEdges::two, (x, v) -> x.swap(0, v, 0, 2, 9), BAD, -1, 6, LEAST_INT, MOST_INT);
        refusedAt("height", LetsEdges::two, (x, v) -> x.swap(0, 0, v, 2, 9), BAD, -1, 201, LEAST_INT, MOST_INT);
        refusedAt("SKIP", LetsEdges::two, (x, v) -> x.swap(0, 0, 0, v, 9), BAD, -1, 5, LEAST_INT, MOST_INT);
        refusedAt("LAST DAY", LetsEdges::two, (x, v) -> x.swap(0, 0, 0, 2, v), BAD, 2, 0, -1, 400, LEAST_INT, MOST_INT);
        range("a LAST DAY as in let()", LetsEdges::two, 3, 399, (x, v) -> x.swap(0, 0, 0, 2, v), 2);
        swapNot("FETCHED before", after(LetsEdges::two, x -> x.fetch(0, 1, 1)), 0, 2);
        swapNot("SWAPPED before", after(LetsEdges::two, x -> x.swap(0, 1, 1, 3, 9)), 0, 2);
        swapNot("by LAW", byLaw(later(LetsEdges::two, 2), 0, "e"), 0, 2);
        swapNot("the SKIP stands", LetsEdges::two, 0, 1);
        swapNot("it is its own SKIP", LetsEdges::two, 0, 0);
        swapNot("the SKIP stands elsewhere", after(LetsEdges::two, x -> x.let(2, 1, 0, 9)), 0, 2);
        swapNot("another SIZE", LetsEdges::two, 0, 4);
        swapNot("REFUSED", after(LetsEdges::two, x -> x.refuse(0, true)), 0, 2);
        swapNot("no PERMIT", later(LetsEdges::two, 7), 0, 2);
        refused("FULL", LetsEdges::full, x -> x.swap(59, 0, 0, 0, 99), FULL);
        refused("FETCHED before ahead of FULL", LetsEdges::full, x -> x.swap(58, 0, 0, 0, 99), NOT);
        refused("by LAW ahead of FULL", byLaw(later(LetsEdges::full, 2), 0, "e"), x -> x.swap(59, 0, 0, 0, 99), NOT);
        refused("a SKIP that stands ahead of FULL", LetsEdges::full, x -> x.swap(59, 0, 0, 1, 99), NOT);
        refused("another SIZE ahead of FULL", LetsEdges::full, x -> x.swap(59, 0, 0, 3, 99), NOT);
        refused("REFUSED ahead of FULL", after(LetsEdges::full, x -> x.refuse(0, true)), x -> x.swap(59, 0, 0, 0, 99), NOT);
        refused("no PERMIT ahead of FULL", later(LetsEdges::full, 7), x -> x.swap(59, 0, 0, 0, 99), NOT);
        refused("BAD LET ahead of FULL", LetsEdges::full, x -> x.swap(60, 0, 0, 0, 99), BAD);
        refused("BAD LORRY ahead of FULL", LetsEdges::full, x -> x.swap(59, 6, 0, 0, 99), BAD);
        refused("BAD height ahead of FULL", LetsEdges::full, x -> x.swap(59, 0, 201, 0, 99), BAD);
        refused("BAD SKIP ahead of FULL", LetsEdges::full, x -> x.swap(59, 0, 0, 4, 99), BAD);
        refused("BAD LAST DAY ahead of FULL", LetsEdges::full, x -> x.swap(59, 0, 0, 0, 2), BAD);
    }

    private static void swapNot(String what, Supplier<SkipCity> made, int let, int skip) {
        refused(what, made, x -> x.swap(let, 0, 0, skip, 99), NOT);
        refused("BAD LORRY ahead of " + what, made, x -> x.swap(let, -1, 0, skip, 99), BAD);
        refused("BAD height ahead of " + what, made, x -> x.swap(let, 0, -1, skip, 99), BAD);
        refused("BAD SKIP ahead of " + what, made, x -> x.swap(let, 0, 0, 40, 99), BAD);
        refused("BAD LAST DAY ahead of " + what, made, x -> x.swap(let, 0, 0, skip, 2), BAD);
        refused("BAD LAST DAY ahead of " + what, made, x -> x.swap(let, 0, 0, skip, 400), BAD);
    }

    private static void seen() {
        says("18", "`int scan(int let)`: A SCAN of a LET at the DAY: 1.", () -> {
            answers("scan", LetsEdges::two, x -> x.scan(0), 1);
            answers("scan the last", LetsEdges::full, x -> x.scan(59), 1);
            SkipCity x = later(LetsEdges::two, 1).get();
            due("scan", x.scan(1), 1);
            due("scan again", x.scan(1), 1);
            due("at the DAY", x.letIs(1, 5), 4);
        });
        says("18", "BAD; NOT: its SKIP does not stand.", () -> {
            refusedAt("LET", LetsEdges::two, (x, v) -> x.scan(v), BAD, -1, 2, LEAST_INT, MOST_INT);
            Supplier<SkipCity> fetched = later(after(LetsEdges::two, x -> x.fetch(0, 0, 0)), 1);
            refused("FETCHED", fetched, x -> x.scan(0), NOT);
            refused("SWAPPED", later(after(LetsEdges::two, x -> x.swap(0, 0, 0, 2, 9)), 1), x -> x.scan(0), NOT);
            refused("its SKIP stands for another", after(fetched, x -> x.let(0, 0, 0, 9)), x -> x.scan(0), NOT);
        });
        says("19", "`int letIs(int let, int what)`: Of a LET: 0 SKIP, 1 KERB, 2 TRADE, 3 the DAY it began, 4 LAST DAY, 5 latest "
            + "SCAN, 6 the DAY it was FETCHED (NONE), 7 LORRY (NONE), 8 height (NONE).", () -> {
                SkipCity x = two();
                x.let(4, 1, 0, 399);
                answers("stands", new long[] {4, 1, 0, 3, 399, 3, -1, -1, -1}, what -> x.letIs(2, what));
                x.pass(1);
                x.scan(2);
                x.pass(1);
                answers("stands", new long[] {4, 1, 0, 3, 399, 4, -1, -1, -1}, what -> x.letIs(2, what));
                x.fetch(2, 0, 0);
                answers("FETCHED", new long[] {4, 1, 0, 3, 399, 4, 5, 0, 0}, what -> x.letIs(2, what));
            });
        says("19", "BAD.", () -> {
            refusedAt("LET", LetsEdges::two, (x, v) -> x.letIs(v, 0), BAD, -1, 2, LEAST_INT, MOST_INT);
            refusedAt("what", LetsEdges::two, (x, v) -> x.letIs(1, v), BAD, -1, 9, LEAST_INT, MOST_INT);
        });
        says("22", "`int lapsed()`: How many are LAPSED.", () -> {
            answers("of none", SkipCity::new, x -> x.lapsed(), 0);
            answers("none of two", later(LetsEdges::two, 6), x -> x.lapsed(), 0);
            answers("both", later(LetsEdges::two, 7), x -> x.lapsed(), 2);
            answers("one of 60", later(LetsEdges::full, 7), x -> x.lapsed(), 1);
        });
        forgottenOnes();
        says("25", "`int lamps(int let)`: LAMPS of a LET.", () -> {
            SkipCity x = byLaw(LetsEdges::two, 0, "l9").get();
            due("no night", x.lamps(0), 0);
            for (int i = 0; i < 3; i++) x.pass(100);
            x.pass(96);
            due("all nights that may be", x.lamps(1), 396 * 9);
            answers("of the last LET", later(LetsEdges::full, 1), c -> c.lamps(59), 2);
        });
        says("25", "BAD.", () -> refusedAt("LET", LetsEdges::two, (x, v) -> x.lamps(v), BAD, -1, 2, LEAST_INT, MOST_INT));
    }

    private static void forgottenOnes() {
        says("23", "`int forgotten(int days)`: How many are FORGOTTEN by so many DAYS (0 to 399).", () -> {
            range("DAYS", Town::empty, 0, 399, (x, v) -> x.forgotten(v), 0);
            range("DAYS", later(LetsEdges::two, 3), 0, 399, (x, v) -> x.forgotten(v), 2, 0, BAD);
        });
        says("23", "BAD.", () -> refusedAt("DAYS", LetsEdges::two, (x, v) -> x.forgotten(v), BAD, -1, 400, MOST_INT));
        says("24", "`int forgets(int days, int i)`: The i-th of them by numbers; NONE.", () -> {
            SkipCity x = street(1, 1, 1, 1);
            for (int i = 0; i < 4; i++) x.let(i, 0, 0, i == 1 ? 399 : 3);
            x.pass(1);
            int[] third = {0, 2, 3, -1, -1};
            for (int i = 0; i < third.length; i++) {
                due("the " + i + "-th", x.forgets(0, i), third[i]);
            }
            due("far behind the last", x.forgets(0, MOST_INT), -1);
            x.scan(0);
            due("the first is another", x.forgets(0, 0), 2);
            x.fetch(3, 0, 0);
            due("the second is none", x.forgets(0, 1), -1);
            answers("of none", SkipCity::new, c -> c.forgets(399, 0), -1);
        });
        says("24", "BAD: also i below 0.", () -> {
            refusedAt("DAYS", LetsEdges::two, (x, v) -> x.forgets(v, 0), BAD, -1, 400, LEAST_INT, MOST_INT);
            refusedAt("i", LetsEdges::two, (x, v) -> x.forgets(0, v), BAD, -1, -2, LEAST_INT);
        });
    }
}
