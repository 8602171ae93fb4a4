import java.util.function.Supplier;
import java.util.function.ToLongFunction;

/** The edges of sheets and of what is asked of all: terms 7 (sheets), the refusals, promises 46 to 53. */
final class SheetsEdges extends Edges {
    private static final int[] VALUES = {0, 1, -1, 126, 127, 128, 129, 255, 256, 257, -127, -128, -129, -256, 32766, 32767,
        32768, 32769, 65535, 65536, 65537, -32767, -32768, -32769, -65536, MOST_INT, MOST_INT - 1, LEAST_INT, LEAST_INT + 1};

    static void run() {
        terms();
        refusals();
        rows();
        items();
        copies();
        writes();
        counts();
        digests();
    }

    private static SkipCity with(int s, int form, int n) {
        SkipCity x = new SkipCity();
        x.sheet(s, form, n);
        for (int i = 0; i < n; i++) x.put(s, form, i, i + 1);
        return x;
    }

    /** SHEET 0: 5 bytes 1 .. 5; SHEET 1: 3 bytes; SHEET 2: 3 shorts; SHEET 3 is LOST. The latest FINDING is 5. */
    private static SkipCity four() {
        SkipCity x = with(0, 0, 5);
        x.sheet(1, 0, 3);
        x.sheet(2, 1, 3);
        x.sheet(3, 0, -1);
        return x;
    }

    private static int lowest(int form, int v) {
        return form == 0 ? (byte) v : form == 1 ? (short) v : v;
    }

    private static void terms() {
        says("T7", "SHEETS 0 .. 3 are LOST (at first) or a row of a FORM: 0 bytes, 1 shorts, 2 ints, of 0 to 90 items (0 at first).",
            () -> {
                refusedAt("LOST at first: SHEET", SkipCity::new, (x, v) -> x.lose(v), NULL, 0, 1, 2, 3);
                range("SHEET", SkipCity::new, 0, 3, (x, v) -> x.sheet(v, 0, 7), 7);
                range("FORM", SkipCity::new, 0, 2, (x, v) -> x.sheet(0, v, 7), 7);
                answers("no items", SkipCity::new, x -> x.sheet(0, 0, 0), 0);
                answers("90 items", SkipCity::new, x -> x.sheet(0, 0, 90), 90);
                refusedAt("items", SkipCity::new, (x, v) -> x.sheet(0, 0, v), BAD, 91, MOST_INT);
                for (int form = 0; form <= 2; form++) {
                    SkipCity x = new SkipCity();
                    x.sheet(3, form, 90);
                    for (int i = 0; i < 90; i++) due("at first", x.get(3, form, i), 0);
                }
            });
        says("T7", "FINDINGS (answers -10 less the number; they change nothing but count() 8): 1 NULL: the SHEET is LOST; 2 INDEX: "
            + "there is no such item; 3 CAST: it has another FORM; 4 STORE: unlike FORMS; 5 SIZE: below 0.", () -> {
                finding("NULL", 1, x -> x.lose(3));
                finding("INDEX", 2, x -> x.put(0, 0, 5, 9));
                finding("CAST", 3, x -> x.put(0, 1, 0, 9));
                finding("STORE", 4, x -> x.copy(0, 0, 2, 0, 1));
                finding("SIZE", 5, x -> x.sheet(0, 0, -1));
                finding("SIZE, far below 0", 5, x -> x.sheet(0, 0, LEAST_INT));
                for (int form = 0; form <= 2; form++) {
                    int f = form;
                    for (int other = 0; other <= 2; other++) {
                        int o = other;
                        answers("a row of " + f + " as of " + o, () -> with(0, f, 1), x -> x.put(0, o, 0, 1), f == o ? 1 : CAST);
                        Supplier<SkipCity> two = after(() -> with(0, f, 1), x -> x.sheet(1, o, 1));
                        answers("copy from " + f + " to " + o, two, x -> x.copy(0, 0, 1, 0, 1), f == o ? 1 : STORE);
                    }
                }
            });
    }

    /** A FINDING answers -10 less its number, and tells the number, whatever was found before. */
    private static void finding(String what, int number, ToLongFunction<SkipCity> call) {
        refused(what, SheetsEdges::four, call, -10 - number);
        refused(what + " behind NULL", after(SheetsEdges::four, x -> x.lose(3)), call, -10 - number);
        SkipCity x = four();
        call.applyAsLong(x);
        x.put(0, 0, 0, 9);
        x.kerb(9, 9, 9, 9);
        x.bill(0, 0);
        due(what + ": count(8) stays till the next", x.count(8), number);
    }

    private static void refusals() {
        says("R", "Refusals, the first that fits, in the order told at each act: BAD -2 (a number not as told, no such thing), NULL, "
            + "NOT -3, FULL -4, other FINDINGS.", () -> {
                due("NONE", SkipCity.NONE, -1);
                due("BAD", SkipCity.BAD, -2);
                due("NOT", SkipCity.NOT, -3);
                due("FULL", SkipCity.FULL, -4);
                refused("a number not as told", Town::made, x -> x.pass(101), BAD);
                refused("no such thing", Town::made, x -> x.lamps(3), BAD);
                refused("BAD ahead of NULL", SheetsEdges::four, x -> x.write(0, 3), BAD);
                refused("NULL ahead of NOT", Town::made, x -> x.write(2, 3), NULL);
                refused("BAD ahead of NOT", Town::made, x -> x.permit(4, 0, 99), BAD);
                Supplier<SkipCity> full = SheetsEdges::fullOfPermits;
                refused("NOT ahead of FULL", full, x -> x.permit(0, 0, 14), NOT);
                refused("BAD ahead of FULL", full, x -> x.permit(1, 0, 0), BAD);
                refused("FULL", full, x -> x.permit(0, 0, 0), FULL);
                refused("BAD ahead of other FINDINGS", SheetsEdges::four, x -> x.sheet(4, 0, -1), BAD);
                refused("NULL ahead of other FINDINGS", SheetsEdges::four, x -> x.put(3, 0, 99, 0), NULL);
                refused("the order told at the act: INDEX ahead of NOT", Town::made, x -> x.draw(2, 9, 1), INDEX);
            });
        says("R", "They change nothing (FINDINGS but count() 8).", () -> {
            refused("BAD", Town::made, x -> x.kerb(-1, 0, 0, 9), BAD);
            refused("BAD", Town::made, x -> x.swap(2, 0, 0, 1, 3), BAD);
            refused("NOT", Town::made, x -> x.let(0, 2, 0, 9), NOT);
            refused("NOT", Town::made, x -> x.swap(2, 0, 0, 3, 9), NOT);
            refused("FULL", SheetsEdges::fullOfPermits, x -> x.permit(0, 5, 9), FULL);
            refused("NULL", Town::made, x -> x.lose(3), NULL);
            refused("INDEX", Town::made, x -> x.copy(0, 0, 0, 1, 6), INDEX);
            refused("CAST", Town::made, x -> x.put(0, 2, 0, 9), CAST);
            refused("STORE", Town::made, x -> x.copy(0, 0, 1, 0, 1), STORE);
            refused("SIZE", Town::made, x -> x.sheet(0, 1, -1), SIZE);
            SkipCity x = new SkipCity();
            for (int i = 0; i < 200; i++) {
                due("again and again", x.lose(i % 4), NULL);
                due("again and again", x.skip(13), BAD);
            }
            due("still a new one", x.digest(), new SkipCity().digest());
        });
        says("0", "An object is used for at most 512 calls after it has been made; what later calls answer is free.", () -> {
            SkipCity x = new SkipCity();
            for (int i = 0; i < 511; i++) due("call " + (i + 1), x.type(i % 5, 'x') > 0 ? 1 : 0, i < 300 ? 1 : 0);
            due("the 512th call", x.count(10), 300);
            SkipCity y = Town.made();
            for (int i = 0; i < 400; i++) y.digest();
            due("after 400 calls more", y.digest(), Town.made().digest());
        });
    }

    private static SkipCity fullOfPermits() {
        SkipCity x = new SkipCity();
        x.kerb(0, 0, 0, 9);
        for (int i = 0; i < 60; i++) x.permit(0, 0, 0);
        return x;
    }

    private static void rows() {
        says("46", "`int sheet(int s, int form, int n)`: A SHEET is a new row of a FORM with n items: n.", () -> {
            SkipCity x = with(0, 2, 90);
            due("a new row", x.sheet(0, 2, 90), 90);
            for (int i = 0; i < 90; i++) due("of zeros", x.get(0, 2, i), 0);
            x.put(0, 2, 89, 7);
            due("a shorter one", x.sheet(0, 2, 1), 1);
            due("has no more items", x.put(0, 2, 1, 7), INDEX);
            due("a longer one", x.sheet(0, 2, 90), 90);
            due("is of zeros", x.get(0, 2, 89), 0);
            due("another FORM", x.sheet(0, 0, 2), 2);
            due("of bytes", x.get(0, 0, 1), 0);
            due("no more ints", x.put(0, 2, 1, 7), CAST);
            due("an empty one", x.sheet(0, 0, 0), 0);
            due("is not LOST", x.lose(0), 0);
        });
        says("46", "BAD: SHEET, FORM, above 90; SIZE.", () -> {
            refusedAt("SHEET", SheetsEdges::four, (x, v) -> x.sheet(v, 0, 1), BAD, -1, 4, LEAST_INT, MOST_INT);
            refusedAt("FORM", SheetsEdges::four, (x, v) -> x.sheet(0, v, 1), BAD, -1, 3, LEAST_INT, MOST_INT);
            refusedAt("items", SheetsEdges::four, (x, v) -> x.sheet(0, 0, v), BAD, 91, 92, MOST_INT);
            Supplier<SkipCity> found = after(SheetsEdges::four, x -> x.lose(3));
            refusedAt("items of a row", found, (x, v) -> x.sheet(0, 0, v), SIZE, -1, -2, LEAST_INT);
            refusedAt("items of one that is LOST", found, (x, v) -> x.sheet(3, 0, v), SIZE, -1, LEAST_INT);
            refused("BAD SHEET ahead of SIZE", SheetsEdges::four, x -> x.sheet(4, 0, -1), BAD);
            refused("BAD SHEET ahead of SIZE", SheetsEdges::four, x -> x.sheet(-1, 0, -1), BAD);
            refused("BAD FORM ahead of SIZE", SheetsEdges::four, x -> x.sheet(0, 3, -1), BAD);
        });
        says("47", "`int lose(int s)`: It is LOST: how many items it had.", () -> {
            for (int s = 0; s <= 3; s++) {
                for (int n : new int[] {0, 1, 90}) {
                    SkipCity x = with(s, 1, n);
                    due("how many", x.lose(s), n);
                    due("it is LOST", x.put(s, 1, 0, 1), NULL);
                    due("a new row", x.sheet(s, 0, 3), 3);
                }
            }
        });
        says("47", "BAD; NULL.", () -> {
            refusedAt("SHEET", SheetsEdges::four, (x, v) -> x.lose(v), BAD, -1, 4, LEAST_INT, MOST_INT);
            refused("LOST", SheetsEdges::four, x -> x.lose(3), NULL);
            refused("LOST again", after(SheetsEdges::four, x -> x.lose(0)), x -> x.lose(0), NULL);
        });
    }

    private static void items() {
        says("48", "`int put(int s, int form, int i, int v)`: Item i, treated as of a FORM, becomes v (the lowest bits that it has): "
            + "1.", () -> {
                for (int form = 0; form <= 2; form++) {
                    for (int v : VALUES) {
                        SkipCity x = with(3, form, 90);
                        due("the first", x.put(3, form, 0, v), 1);
                        due("the last", x.put(3, form, 89, v), 1);
                        due(v + " as of FORM " + form, x.get(3, form, 0), lowest(form, v));
                        due(v + " as of FORM " + form, x.get(3, form, 89), lowest(form, v));
                        due("the next stays", x.get(3, form, 1), 2);
                        due("the one ahead stays", x.get(3, form, 88), 89);
                    }
                }
            });
        says("48", "BAD; NULL; CAST; INDEX.", () -> refusedItems((x, s, form, i) -> x.put(s, form, i, 9), false));
        says("49", "`int get(int s, int form, int i)`: Item i of it.", () -> {
            for (int form = 0; form <= 2; form++) {
                SkipCity x = with(3, form, 90);
                for (int i = 0; i < 90; i++) due("item " + i, x.get(3, form, i), i + 1);
                x.put(3, form, 0, -1);
                due("an item below 0", x.get(3, form, 0), -1);
            }
            SkipCity x = with(0, 2, 1);
            x.put(0, 2, 0, LEAST_INT);
            due("an item that is the least int", x.get(0, 2, 0), LEAST_INT);
            due("is no FINDING", x.count(8), 0);
        });
        says("49", "BAD: the least int; so are NULL, CAST, INDEX (count() 8 tells).",
            () -> refusedItems((x, s, form, i) -> x.get(s, form, i), true));
    }

    interface ItemCall {
        long of(SkipCity x, int s, int form, int i);
    }

    private static void itemRefused(String what, Supplier<SkipCity> made, ItemCall call, int[] item, int want, boolean get) {
        int finding = want < -10 ? -10 - want : 0;
        Checks.refused(what, made, x -> call.of(x, item[0], item[1], item[2]), get ? LEAST_INT : want, finding);
    }

    private static void refusedItems(ItemCall call, boolean get) {
        for (int v : new int[] {-1, 4, LEAST_INT, MOST_INT}) {
            itemRefused("SHEET " + v, SheetsEdges::four, call, new int[] {v, 0, 0}, BAD, get);
        }
        for (int v : new int[] {-1, 3, LEAST_INT, MOST_INT}) {
            itemRefused("FORM " + v, SheetsEdges::four, call, new int[] {0, v, 0}, BAD, get);
            itemRefused("BAD FORM ahead of NULL", SheetsEdges::four, call, new int[] {3, v, 0}, BAD, get);
            itemRefused("BAD FORM ahead of INDEX", SheetsEdges::four, call, new int[] {0, v, 5}, BAD, get);
        }
        for (int v : new int[] {-1, 5, 89, 90, LEAST_INT, MOST_INT}) {
            itemRefused("item " + v, SheetsEdges::four, call, new int[] {0, 0, v}, INDEX, get);
            itemRefused("BAD SHEET ahead of INDEX", SheetsEdges::four, call, new int[] {4, 0, v}, BAD, get);
            itemRefused("NULL ahead of INDEX", SheetsEdges::four, call, new int[] {3, 0, v}, NULL, get);
            itemRefused("CAST ahead of INDEX", SheetsEdges::four, call, new int[] {0, 1, v}, CAST, get);
        }
        itemRefused("BAD SHEET ahead of BAD FORM", SheetsEdges::four, call, new int[] {4, 3, 0}, BAD, get);
        for (int form = 0; form <= 2; form++) {
            itemRefused("NULL as of " + form, SheetsEdges::four, call, new int[] {3, form, 0}, NULL, get);
            itemRefused("NULL that had a FORM", after(SheetsEdges::four, x -> x.lose(0)), call, new int[] {0, form, 0}, NULL, get);
            int f = form;
            Supplier<SkipCity> empty = after(SheetsEdges::four, x -> x.sheet(3, f, 0));
            itemRefused("the first of none", empty, call, new int[] {3, form, 0}, INDEX, get);
            Supplier<SkipCity> most = after(SheetsEdges::four, x -> x.sheet(3, f, 90));
            itemRefused("behind the last of 90", most, call, new int[] {3, form, 90}, INDEX, get);
            itemRefused("as of another", most, call, new int[] {3, (form + 1) % 3, 89}, CAST, get);
        }
    }

    private static void row(SkipCity x, int s, int... want) {
        for (int i = 0; i < want.length; i++) due("item " + i + " of SHEET " + s, x.get(s, 0, i), want[i]);
    }

    private static void copies() {
        says("50", "`int copy(int s, int i, int t, int j, int n)`: n items of SHEET s, from i on, come to SHEET t (perhaps s, as they "
            + "were), from j on: 1.", () -> {
                SkipCity x = four();
                due("all that there is room for", x.copy(0, 0, 1, 0, 3), 1);
                row(x, 1, 1, 2, 3);
                due("the last to the last", x.copy(0, 4, 1, 2, 1), 1);
                row(x, 1, 1, 2, 5);
                row(x, 0, 1, 2, 3, 4, 5);
                due("onto itself, forth", x.copy(0, 0, 0, 1, 4), 1);
                row(x, 0, 1, 1, 2, 3, 4);
                due("onto itself, back", x.copy(0, 1, 0, 0, 4), 1);
                row(x, 0, 1, 2, 3, 4, 4);
                due("onto itself, all in place", x.copy(0, 0, 0, 0, 5), 1);
                row(x, 0, 1, 2, 3, 4, 4);
                due("none", x.copy(0, 0, 1, 0, 0), 1);
                due("none, behind the last", x.copy(0, 5, 1, 3, 0), 1);
                row(x, 1, 1, 2, 5);
                for (int form = 0; form <= 2; form++) {
                    SkipCity y = with(3, form, 90);
                    y.sheet(2, form, 90);
                    y.put(3, form, 89, LEAST_INT + 1);
                    due("all of 90", y.copy(3, 0, 2, 0, 90), 1);
                    due("the first", y.get(2, form, 0), 1);
                    due("the last", y.get(2, form, 89), lowest(form, LEAST_INT + 1));
                }
                SkipCity z = new SkipCity();
                z.sheet(0, 0, 0);
                due("none of none", z.copy(0, 0, 0, 0, 0), 1);
            });
        says("50", "BAD: the SHEETS; NULL: s, t; STORE; INDEX: below 0, not so many.", () -> {
            refusedAt("SHEET s", SheetsEdges::four, (x, v) -> x.copy(v, 0, 1, 0, 1), BAD, -1, 4, LEAST_INT, MOST_INT);
            refusedAt("SHEET t", SheetsEdges::four, (x, v) -> x.copy(0, 0, v, 0, 1), BAD, -1, 4, LEAST_INT, MOST_INT);
            refusedAt("BAD t ahead of NULL s", SheetsEdges::four, (x, v) -> x.copy(3, 0, v, 0, 1), BAD, -1, 4);
            refusedAt("BAD s ahead of NULL t", SheetsEdges::four, (x, v) -> x.copy(v, 0, 3, 0, 1), BAD, -1, 4);
            refused("BAD ahead of INDEX", SheetsEdges::four, x -> x.copy(0, -1, 4, 0, 1), BAD);
            refused("NULL s", SheetsEdges::four, x -> x.copy(3, 0, 0, 0, 1), NULL);
            refused("NULL t", SheetsEdges::four, x -> x.copy(0, 0, 3, 0, 1), NULL);
            refused("NULL both", SheetsEdges::four, x -> x.copy(3, 0, 3, 0, 0), NULL);
            refused("NULL s ahead of INDEX", SheetsEdges::four, x -> x.copy(3, -1, 0, 0, 1), NULL);
            refused("NULL t ahead of INDEX", SheetsEdges::four, x -> x.copy(0, 0, 3, 0, 99), NULL);
            refused("STORE", SheetsEdges::four, x -> x.copy(0, 0, 2, 0, 1), STORE);
            refused("STORE, the other way", SheetsEdges::four, x -> x.copy(2, 0, 0, 0, 1), STORE);
            refused("STORE of none", SheetsEdges::four, x -> x.copy(0, 0, 2, 0, 0), STORE);
            refused("STORE ahead of INDEX", SheetsEdges::four, x -> x.copy(0, -1, 2, -1, -1), STORE);
            refusedAt("from", SheetsEdges::four, (x, v) -> x.copy(0, v, 1, 0, 1), INDEX, -1, 5, 6, LEAST_INT, MOST_INT);
            refusedAt("to", SheetsEdges::four, (x, v) -> x.copy(0, 0, 1, v, 1), INDEX, -1, 3, 4, LEAST_INT, MOST_INT);
            refusedAt("so many", SheetsEdges::four, (x, v) -> x.copy(0, 0, 1, 0, v), INDEX, -1, 4, 5, LEAST_INT, MOST_INT);
            refusedAt("so many of itself", SheetsEdges::four, (x, v) -> x.copy(0, 0, 0, 0, v), INDEX, -1, 6, MOST_INT);
            refused("one too many in s", SheetsEdges::four, x -> x.copy(0, 3, 1, 0, 3), INDEX);
            refused("one too many in t", SheetsEdges::four, x -> x.copy(0, 0, 1, 1, 3), INDEX);
            refused("none, from beyond", SheetsEdges::four, x -> x.copy(0, 6, 1, 0, 0), INDEX);
            refused("none, to beyond", SheetsEdges::four, x -> x.copy(0, 0, 1, 4, 0), INDEX);
            refused("none, from below 0", SheetsEdges::four, x -> x.copy(0, -1, 1, 0, 0), INDEX);
            refused("places that would wrap", SheetsEdges::four, x -> x.copy(0, 1, 1, 1, MOST_INT), INDEX);
            refused("places that would wrap", SheetsEdges::four, x -> x.copy(0, MOST_INT, 1, MOST_INT, MOST_INT), INDEX);
            refused("places that would wrap", SheetsEdges::four, x -> x.copy(0, MOST_INT, 1, 0, 2), INDEX);
        });
    }

    private static void writes() {
        says("51", "`int write(int let, int s)`: The BILL (0 to 6) of a LET that has a LOAD comes to a SHEET from item 0 on (the lowest "
            + "bits), as many as there are items: how many.", () -> {
                int[] sizes = {0, 1, 5, 6, 7, 8, 90};
                for (int form = 0; form <= 2; form++) {
                    for (int size : sizes) {
                        SkipCity x = Town.made();
                        x.sheet(3, form, size);
                        for (int i = 0; i < size; i++) x.put(3, form, i, 99);
                        due("how many", x.write(0, 3), Math.min(7, size));
                        for (int i = 0; i < Math.min(9, size); i++) {
                            due("item " + i, x.get(3, form, i), i < 7 ? lowest(form, x.bill(0, i)) : 99);
                        }
                    }
                }
                due("a BILL that a byte does not hold", Town.made().bill(0, 5), 417);
                SkipCity x = Town.made();
                x.write(0, 1);
                x.sheet(1, 0, 7);
                x.write(0, 1);
                due("its lowest bits", x.get(1, 0, 5), 417 - 512);
                due("of another LET", x.write(1, 0), 6);
                due("its BILL", x.get(0, 1, 0), 79);
            });
        says("51", "BAD; NULL; NOT: no LOAD.", () -> {
            refusedAt("LET", Town::made, (x, v) -> x.write(v, 0), BAD, -1, 3, LEAST_INT, MOST_INT);
            refusedAt("SHEET", Town::made, (x, v) -> x.write(0, v), BAD, -1, 4, LEAST_INT, MOST_INT);
            refused("NULL", Town::made, x -> x.write(0, 3), NULL);
            refused("BAD LET ahead of NULL", Town::made, x -> x.write(3, 3), BAD);
            refused("NOT", Town::made, x -> x.write(2, 0), NOT);
            refused("NOT, with no items", after(Town::made, x -> x.sheet(3, 0, 0)), x -> x.write(2, 3), NOT);
            refused("BAD SHEET ahead of NOT", Town::made, x -> x.write(2, 4), BAD);
            refused("NULL ahead of NOT", Town::made, x -> x.write(2, 3), NULL);
        });
    }

    private static void counts() {
        says("52", "`int count(int what)`: 0 the DAY, 1 KERBS, 2 SKIPS, 3 of these in THE YARD, 4 TIPS, 5 PERMITS, 6 LETS, 7 LOADS that "
            + "are known to be WEIGHED, 8 the number of the latest FINDING (0 before any), 9 TASKS, 10 bytes of all texts, 11 "
            + "HOLIDAYS.", () -> {
                SkipCity x = new SkipCity();
                answers("of a new one", new long[12], what -> x.count(what));
                answers("of a town", new long[] {4, 4, 5, 4, 3, 3, 3, 1, 5, 2, 31, 1}, what -> Town.made().count(what));
                SkipCity most = most();
                answers("of a full city", new long[] {399, 24, 40, 39, 6, 60, 60, 1, 0, 6, 100, 1}, what -> most.count(what));
                for (int i = 0; i < 300; i++) x.type(i % 5, 'x');
                due("bytes of all texts", x.count(10), 300);
            });
        says("52", "BAD.", () -> refusedAt("what", Town::made, (x, v) -> x.count(v), BAD, -1, 12, LEAST_INT, MOST_INT));
    }

    /** As much of everything as there may be, but for bytes of texts. */
    private static SkipCity most() {
        SkipCity x = new SkipCity();
        for (int i = 0; i < 24; i++) x.kerb(0, 0, 0, 60);
        for (int i = 0; i < 40; i++) x.skip(1);
        for (int i = 0; i < 6; i++) x.tip(0, 0, 1, 0, 23, 0);
        for (int i = 0; i < 60; i++) x.permit(0, 0, 0);
        for (int i = 0; i < 60; i++) {
            x.let(0, 0, 0, 0);
            if (i < 59) x.fetch(i, 0, 0);
        }
        for (int i = 0; i < 6; i++) x.task(0, 1, 0);
        for (int i = 0; i < 100; i++) x.type(i % 5, 'x');
        x.weigh(0, 0, 1, 0);
        x.weigh(59, 0, 1, 0);
        x.holiday(399, true);
        for (int i = 0; i < 4; i++) x.pass(i < 3 ? 100 : 99);
        return x;
    }

    private static void digests() {
        says("53", "`long digest()`: h is 17; h becomes 31 h and each of: count() 0 to 7, 9 to 11; of each KERB about() 4, 5, 6; of each "
            + "SKIP where() 1; of each LET letIs() 5, 6, lamps(), weighs() 0 and bill() 0 (-3: NOT); fault() of texts 0 to 4; "
            + "lapsed(); plan(2) (-3: NOT); as longs that wrap.", () -> {
                digest("empty", new SkipCity());
                digest("a town", Town.made());
                digest("a town, much later", after(Town::made, x -> x.pass(99)).get());
                digest("a town without a plan", after(Town::made, x -> x.reach(1)).get());
                digest("a town with a FAULT", after(Town::made, x -> x.type(2, 'x')).get());
                digest("a town as of DAY 0", after(Town::made, x -> x.asOf(0)).get());
                // With 120 MILES in all: one LORRY alone, two, three are needed, none are enough.
                int[] plans = {120, 120, NOT, NOT};
                int[] reaches = {120, 60, 40, 39};
                for (int i = 0; i < reaches.length; i++) {
                    SkipCity six = sixTasks(reaches[i]);
                    due("plan(2) in REACH " + reaches[i], six.plan(2), plans[i]);
                    digest("six TASKS in REACH " + reaches[i], six);
                    six.plan(3);
                    digest("six TASKS, whatever was asked before", six);
                }
                SkipCity x = Town.made();
                long h = x.digest();
                x.lose(3);
                due("not count(8)", x.digest(), h);
                due("it changes nothing", x.digest(), h);
                x.holiday(399, true);
                due("another", x.digest() == h ? 1 : 0, 0);
                x.holiday(399, false);
                due("the same again", x.digest(), h);
            });
    }

    private static SkipCity sixTasks(int reach) {
        SkipCity x = new SkipCity();
        x.kerb(0, 50, 60, 60);
        x.tip(50, 50, 1, 0, 23, 0);
        for (int i = 0; i < 6; i++) x.task(0, 4, 0);
        x.reach(reach);
        return x;
    }

    private static void digest(String what, SkipCity x) {
        long h = 17;
        for (int n : new int[] {0, 1, 2, 3, 4, 5, 6, 7, 9, 10, 11}) h = 31L * h + x.count(n);
        for (int kerb = 0; kerb < x.count(1); kerb++) {
            for (int n = 4; n <= 6; n++) h = 31L * h + x.about(kerb, n);
        }
        for (int skip = 0; skip < x.count(2); skip++) h = 31L * h + x.where(skip, 1);
        for (int let = 0; let < x.count(6); let++) {
            for (int v : new int[] {x.letIs(let, 5), x.letIs(let, 6), x.lamps(let), x.weighs(let, 0), x.bill(let, 0)}) {
                h = 31L * h + v;
            }
        }
        for (int text = 0; text <= 4; text++) h = 31L * h + x.fault(text);
        h = 31L * h + x.lapsed();
        due("digest of " + what, x.digest(), 31L * h + x.plan(2));
    }
}
