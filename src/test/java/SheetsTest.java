import java.util.function.Supplier;

/** Promises 46 to 53: sheets. */
final class SheetsTest extends Case {
    private static final int NO_INT = Integer.MIN_VALUE;

    static void run() {
        sheet();
        lose();
        putAndGet();
        get();
        copy();
        write();
        count();
        digest();
    }

    private static void sheet() {
        SkipCity x = new SkipCity();
        due("sheet of 0", x.sheet(0, 0, 0), 0);
        due("sheet of 90", x.sheet(3, 2, 90), 90);
        due("item 89", x.get(3, 2, 89), 0);
        due("put", x.put(3, 2, 89, 5), 1);
        due("item 89", x.get(3, 2, 89), 5);
        due("a new row", x.sheet(3, 2, 90), 90);
        due("is of zeros", x.get(3, 2, 89), 0);
        due("another form", x.sheet(3, 0, 1), 1);
        due("get", x.get(3, 0, 0), 0);
        due("lose", x.lose(3), 1);
        due("lose the empty one", x.lose(0), 0);
        int[][] bad = {{-1, 0, 0}, {4, 0, 0}, {0, -1, 0}, {0, 3, 0}, {0, 0, 91}, {0, 0, Integer.MAX_VALUE}, {4, 0, -1}};
        for (int[] b : bad) {
            refused("sheet bad", Town::made, t -> t.sheet(b[0], b[1], b[2]), -2);
        }
        Supplier<SkipCity> other = () -> {
            SkipCity t = Town.made();
            t.lose(3);
            return t;
        };
        refused("sheet below 0", other, t -> t.sheet(0, 0, -1), -15);
        refused("sheet below 0", other, t -> t.sheet(0, 0, NO_INT), -15);
    }

    private static void lose() {
        SkipCity x = Town.made();
        due("lose", x.lose(0), 6);
        due("lose again", x.lose(0), -11);
        due("count(8)", x.count(8), 1);
        refused("lose(-1)", Town::made, t -> t.lose(-1), -2);
        refused("lose(4)", Town::made, t -> t.lose(4), -2);
        refused("lose a lost one", Town::made, t -> t.lose(3), -11);
    }

    private static void putAndGet() {
        int[] values = {0, 1, -1, 127, 128, 255, 256, -128, -129, 32767, 32768, 65535, 65536, -32769,
            Integer.MAX_VALUE, NO_INT, 1412};
        for (int form = 0; form <= 2; form++) {
            SkipCity x = new SkipCity();
            x.sheet(1, form, 17);
            for (int i = 0; i < values.length; i++) {
                due("put", x.put(1, form, i, values[i]), 1);
            }
            for (int i = 0; i < values.length; i++) {
                int v = values[i];
                due("get, form " + form, x.get(1, form, i), form == 0 ? (byte) v : form == 1 ? (short) v : v);
            }
        }
        int[][] bad = {{-1, 0, 0}, {4, 0, 0}, {0, -1, 0}, {0, 3, 0}, {4, 1, 9}};
        for (int[] b : bad) {
            refused("put bad", Town::made, t -> t.put(b[0], b[1], b[2], 9), -2);
        }
        refused("put lost", Town::made, t -> t.put(3, 0, 0, 9), -11);
        refused("put of another form", Town::made, t -> t.put(0, 0, 0, 9), -13);
        refused("put cast before index", Town::made, t -> t.put(0, 2, 6, 9), -13);
        refused("put null before index", Town::made, t -> t.put(3, 2, 6, 9), -11);
        refused("put item -1", Town::made, t -> t.put(0, 1, -1, 9), -12);
        refused("put item 6", Town::made, t -> t.put(0, 1, 6, 9), -12);
        refused("put item most", Town::made, t -> t.put(0, 1, Integer.MAX_VALUE, 9), -12);
        refused("put in an empty one", SheetsTest::withEmpty, t -> t.put(3, 0, 0, 9), -12);
    }

    private static SkipCity withEmpty() {
        SkipCity x = Town.made();
        x.sheet(3, 0, 0);
        return x;
    }

    private static void get() {
        SkipCity x = Town.made();
        due("get", x.get(0, 1, 0), 3);
        due("get", x.get(2, 2, 1), 77);
        int[][] bad = {{-1, 0, 0}, {4, 0, 0}, {0, -1, 0}, {0, 3, 0}, {4, 1, 9}};
        for (int[] b : bad) {
            Checks.refused("get bad", Town::made, t -> t.get(b[0], b[1], b[2]), NO_INT, 0);
        }
        Checks.refused("get lost", Town::made, t -> t.get(3, 0, 0), NO_INT, 1);
        Checks.refused("get null before index", Town::made, t -> t.get(3, 0, -1), NO_INT, 1);
        Checks.refused("get of another form", Town::made, t -> t.get(0, 0, 0), NO_INT, 3);
        Checks.refused("get cast before index", Town::made, t -> t.get(0, 2, 6), NO_INT, 3);
        Checks.refused("get item -1", Town::made, t -> t.get(0, 1, -1), NO_INT, 2);
        Checks.refused("get item 6", Town::made, t -> t.get(0, 1, 6), NO_INT, 2);
        Checks.refused("get of an empty one", SheetsTest::withEmpty, t -> t.get(3, 0, 0), NO_INT, 2);
    }

    /** SHEET 0: 1 2 3 4 5; SHEET 1: 0 0 0; both of bytes. SHEET 2: of shorts. */
    private static SkipCity rows() {
        SkipCity x = new SkipCity();
        x.sheet(0, 0, 5);
        for (int i = 0; i < 5; i++) {
            x.put(0, 0, i, i + 1);
        }
        x.sheet(1, 0, 3);
        x.sheet(2, 1, 3);
        x.sheet(3, 0, -1);
        return x;
    }

    private static void items(SkipCity x, int s, int... want) {
        for (int i = 0; i < want.length; i++) {
            due("item " + i + " of " + s, x.get(s, 0, i), want[i]);
        }
    }

    private static void copy() {
        SkipCity x = rows();
        due("copy", x.copy(0, 2, 1, 0, 3), 1);
        items(x, 1, 3, 4, 5);
        items(x, 0, 1, 2, 3, 4, 5);
        due("copy forward on itself", x.copy(0, 0, 0, 1, 4), 1);
        items(x, 0, 1, 1, 2, 3, 4);
        due("copy backward on itself", x.copy(0, 1, 0, 0, 4), 1);
        items(x, 0, 1, 2, 3, 4, 4);
        due("copy none", x.copy(0, 5, 1, 3, 0), 1);
        items(x, 1, 3, 4, 5);
        int most = Integer.MAX_VALUE;
        int[][] bad = {{-1, 0, 0, 0, 1}, {4, 0, 0, 0, 1}, {0, 0, -1, 0, 1}, {0, 0, 4, 0, 1}, {3, 0, 4, 0, 1}};
        for (int[] b : bad) {
            refused("copy bad", SheetsTest::rows, t -> t.copy(b[0], b[1], b[2], b[3], b[4]), -2);
        }
        refused("copy from a lost one", SheetsTest::rows, t -> t.copy(3, 0, 0, 0, 1), -11);
        refused("copy to a lost one", SheetsTest::rows, t -> t.copy(0, 0, 3, 0, 1), -11);
        refused("copy null before index", SheetsTest::rows, t -> t.copy(0, -1, 3, 0, 1), -11);
        refused("copy of unlike forms", SheetsTest::rows, t -> t.copy(0, 0, 2, 0, 1), -14);
        refused("copy store before index", SheetsTest::rows, t -> t.copy(0, 0, 2, 0, 9), -14);
        int[][] index = {{0, -1, 1, 0, 1}, {0, 0, 1, -1, 1}, {0, 0, 1, 0, -1}, {0, 0, 1, 0, 4}, {0, 3, 1, 0, 3},
            {0, 0, 1, 1, 3}, {0, 6, 1, 0, 0}, {0, 0, 1, 4, 0}, {0, most, 1, 0, most}, {0, 1, 1, 0, most},
            {0, most, 1, 0, 1}, {0, 0, 1, most, 1}, {0, 0, 0, 1, 5}, {0, 0, 1, 0, NO_INT}, {0, NO_INT, 1, 0, 1}};
        for (int[] b : index) {
            refused("copy index", SheetsTest::rows, t -> t.copy(b[0], b[1], b[2], b[3], b[4]), -12);
        }
    }

    private static void write() {
        SkipCity x = Town.made();
        long all = 71 + 106 + 417 + 3475;
        due("bill", x.bill(0, 0), all);
        long[] bill = {all, 14, 9, 48, 106, 417, 3475};
        for (int form = 0; form <= 2; form++) {
            x.sheet(3, form, 9);
            x.put(3, form, 7, 5);
            due("write", x.write(0, 3), 7);
            for (int i = 0; i < 7; i++) {
                long v = bill[i];
                due("written, form " + form, x.get(3, form, i), form == 0 ? (byte) v : form == 1 ? (short) v : v);
            }
            due("not written", x.get(3, form, 7), 5);
        }
        due("write five", x.write(0, 1), 5);
        due("the fifth", x.get(1, 0, 4), 106);
        x.sheet(3, 1, 7);
        due("write seven", x.write(0, 3), 7);
        x.sheet(3, 1, 0);
        due("write none", x.write(0, 3), 0);
        refused("write(-1)", Town::made, t -> t.write(-1, 0), -2);
        refused("write(3)", Town::made, t -> t.write(3, 0), -2);
        refused("write, sheet -1", Town::made, t -> t.write(0, -1), -2);
        refused("write, sheet 4", Town::made, t -> t.write(0, 4), -2);
        refused("write, lost", Town::made, t -> t.write(0, 3), -11);
        refused("write null before not", Town::made, t -> t.write(2, 3), -11);
        refused("write, no load", Town::made, t -> t.write(2, 0), -3);
    }

    private static void count() {
        SkipCity x = Town.made();
        answers("count", new long[] {4, 4, 5, 4, 3, 3, 3, 1, 5, 2, 31, 1}, x::count);
        x.wipe(4);
        due("bytes of texts", x.count(10), 17);
        x.weigh(1, 0, 9, 4);
        due("loads that are known to be weighed", x.count(7), 2);
        x.asOf(3);
        due("as of 3", x.count(7), 1);
        due("a finding", x.lose(3), -11);
        due("count(8)", x.count(8), 1);
        due("none", x.lose(2), 3);
        due("count(8) stays", x.count(8), 1);
        refused("count(-1)", Town::made, t -> t.count(-1), -2);
        refused("count(12)", Town::made, t -> t.count(12), -2);
    }

    private static long digestOf(SkipCity x) {
        long h = 17;
        for (int what : new int[] {0, 1, 2, 3, 4, 5, 6, 7, 9, 10, 11}) {
            h = h * 31 + x.count(what);
        }
        for (int kerb = 0; kerb < x.count(1); kerb++) {
            h = ((h * 31 + x.about(kerb, 4)) * 31 + x.about(kerb, 5)) * 31 + x.about(kerb, 6);
        }
        for (int skip = 0; skip < x.count(2); skip++) {
            h = h * 31 + x.where(skip, 1);
        }
        for (int let = 0; let < x.count(6); let++) {
            h = (h * 31 + x.letIs(let, 5)) * 31 + x.letIs(let, 6);
            h = ((h * 31 + x.lamps(let)) * 31 + x.weighs(let, 0)) * 31 + x.bill(let, 0);
        }
        for (int text = 0; text <= 4; text++) {
            h = h * 31 + x.fault(text);
        }
        return (h * 31 + x.lapsed()) * 31 + x.plan(2);
    }

    /** With REACH 40 three LORRIES alone have a plan, with 80 one has none. */
    private static void digestOfTwoLorries() {
        for (int reach : new int[] {40, 80}) {
            SkipCity x = new SkipCity();
            x.kerb(0, 50, 60, 30);
            x.tip(50, 50, 1, 0, 23, 0);
            for (int i = 0; i < 6; i++) {
                x.task(0, 4, 0);
            }
            x.reach(reach);
            due("plan with two", x.plan(2), reach == 40 ? -3 : 120);
            due("plan with the others", x.plan(reach == 40 ? 3 : 1), reach == 40 ? 120 : -3);
            due("digest with two", x.digest(), digestOf(x));
        }
    }

    private static void digest() {
        SkipCity x = Town.made();
        due("digest", x.digest(), digestOf(x));
        due("digest of Town", x.digest(), 7746366858075828502L);
        due("it changes nothing", x.digest(), 7746366858075828502L);
        x.lose(3);
        due("findings are not of it", x.digest(), 7746366858075828502L);
        x.reach(1);
        due("digest without a plan", x.digest(), digestOf(x));
        digestOfTwoLorries();
        type(x, 2, "x");
        x.asOf(0);
        x.pass(30);
        due("digest later", x.digest(), digestOf(x));
    }
}
