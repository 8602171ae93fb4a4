import java.util.Random;

/** Runs of calls, the same each time, on the program and on the model of it. */
final class RandomRunsTest {
    private static final int RUNS = 600;
    private static final int CALLS = 512;
    // What a step calls at the most, and the two calls at the end.
    private static final int MOST_AT_ONCE = 12;
    private static final int[] ODD = {-1, -2, 0, 1, Integer.MAX_VALUE, Integer.MIN_VALUE, 4, 6, 60, 400, 12, 24, 40};

    private static final int[][] FAVOURED = {
        {16, 20, 26, 27, 0, 31, 32, 33, 33, 39}, {40, 41, 42, 43, 43, 6}, {44, 46, 47, 48, 49, 50, 52}, {15, 11, 12, 13, 38},
        {46, 47, 34, 34, 35, 35, 36, 20, 16, 26}, {22, 22, 20, 16, 0, 5, 9}, {2, 4, 8, 6, 1}, {0, 18, 23, 24, 25, 16, 16, 20}};

    private final Random random;
    private final SkipCity x = new SkipCity();
    private final Model m = new Model();
    private final StringBuilder calls = new StringBuilder();
    private int made = 0;
    // The calls that a run makes more often than others, so that some runs go far in one matter.
    private final int[] favoured;
    private final int heaviest;
    // How often wrong numbers come: some runs go on far, some try the edges.
    private final int oddness;

    private RandomRunsTest(int seed) {
        random = new Random(seed);
        oddness = new int[] {1, 4, 15}[seed % 3];
        favoured = FAVOURED[seed % FAVOURED.length];
        heaviest = seed % 4 < 2 ? 3000 : 400;
    }

    static void run() {
        for (int seed = 0; seed < RUNS; seed++) {
            new RandomRunsTest(seed).go(seed);
        }
    }

    private void go(int seed) {
        int city = random.nextInt(90) + 10;
        if (seed % 2 == 0) settle();
        while (made < CALLS - MOST_AT_ONCE) {
            int call = random.nextInt(5) < 2 ? random.nextInt(55) : favoured[random.nextInt(favoured.length)];
            if (!step(seed, made < city ? begin() : call)) return;
        }
        Checks.due("run " + seed + ", count(8)", x.count(8), m.count(8));
        Checks.due("run " + seed + ", digest", x.digest(), m.digest());
    }

    /** KERBS with long PERMITS, one behind the other, so that LETS go on for weeks. */
    private void settle() {
        for (int i = 0; i < 3; i++) {
            said("kerb(" + i + ", 45, 52, 60)", x.kerb(i, 45, 52, 60), m.kerb(i, 45, 52, 60));
            for (char b : "d99;l4".toCharArray()) said("type", x.type(i, b), m.type(i, b));
            for (int from = 0; from < 200; from += 99) said("permit", x.permit(i, from, from + 98), m.permit(i, from, from + 98));
        }
        for (int i = 0; i < 9; i++) said("skip", x.skip(i % 3 + 2), m.skip(i % 3 + 2));
        said("tip", x.tip(30, 30, 63, 6, 18, 9), m.tip(30, 30, 63, 6, 18, 9));
        for (int s = 0; s < 2; s++) said("sheet", x.sheet(s, s, 7), m.sheet(s, s, 7));
    }

    private int begin() {
        int[] first = {2, 2, 4, 4, 4, 6, 8, 8, 8, 8, 15, 15, 9, 9, 9};
        return first[random.nextInt(first.length)];
    }

    private boolean step(int seed, int call) {
        if (calls.length() > 2000) calls.setLength(0);
        long[] both = ask(call);
        Checks.due("run " + seed + ": .. " + calls, both[0], both[1]);
        return both[0] == both[1];
    }

    private int any(int least, int greatest) {
        if (random.nextInt(100) < oddness) {
            switch (random.nextInt(4)) {
                case 0: return least - 1;
                case 1: return greatest + 1;
                case 2: return ODD[random.nextInt(ODD.length)];
                default: return random.nextBoolean() ? least : greatest;
            }
        }
        int range = greatest - least + 1;
        return range < 1 ? least : least + random.nextInt(range);
    }

    private int near(int v, int by) {
        return v + random.nextInt(by * 2 + 1) - by;
    }

    private int let() {
        int n = m.lets.size();
        // The later ones more often, as they stand yet.
        return n > 4 && random.nextBoolean() ? any(n - 4, n - 1) : any(0, n - 1);
    }

    private int skipInYard() {
        int s = any(0, m.skips.size() - 1);
        for (int i = 0; i < 5 && m.where(s, 1) >= 0; i++) s = any(0, m.skips.size() - 1);
        return s;
    }

    private int kerb() {
        return random.nextInt(3) == 0 ? any(0, m.kerbs.size() - 1) : any(0, Math.min(2, m.kerbs.size() - 1));
    }

    private int day() {
        return random.nextInt(4) == 0 ? any(0, 399) : any(Math.max(0, m.day - 20), Math.min(399, m.day + 20));
    }

    private int size() {
        return random.nextInt(4) == 0 ? any(1, 12) : any(2, 4);
    }

    private int item() {
        int[] some = {0, 0, 1, 2, 3, 9, -1, 127, 128, 40000, Integer.MAX_VALUE};
        return random.nextInt(5) == 0 ? some[random.nextInt(some.length)] : random.nextInt(9);
    }

    private int form(int s) {
        return s >= 0 && s < 4 && m.sheets[s] != null && random.nextInt(12) > 0
            ? m.sheets[s] instanceof byte[] ? 0 : m.sheets[s] instanceof short[] ? 1 : 2 : any(0, 2);
    }

    private long[] said(String call, long got, long want) {
        made++;
        calls.append(call).append("; ");
        return new long[] {got, want};
    }

    private static String of(String name, int... numbers) {
        StringBuilder s = new StringBuilder(name).append('(');
        for (int i = 0; i < numbers.length; i++) s.append(i == 0 ? "" : ", ").append(numbers[i]);
        return s.append(')').toString();
    }

    private long[] ask(int call) {
        return call < 16 ? askCity(call) : call < 32 ? askLets(call) : call < 44 ? askSwaps(call) : askSheets(call);
    }

    private long[] askCity(int call) {
        boolean is = random.nextInt(3) > 0;
        int a = day();
        int b = day();
        int n = random.nextInt(3);
        switch (call) {
            case 0: { int p = random.nextInt(3) == 0 ? any(1, 30) : any(1, 3);
                return said(of("pass", p), x.pass(p), m.pass(p)); }
            case 1: return said(of("holiday" + is, a), x.holiday(a, is), m.holiday(a, is));
            case 2: { int c = any(0, 3), d = any(0, 99), e = any(0, 99), f = any(4, 60);
                return said(of("kerb", c, d, e, f), x.kerb(c, d, e, f), m.kerb(c, d, e, f)); }
            case 3: { int k = kerb(); boolean no = random.nextInt(4) == 0;
                return said(of("refuse" + no, k), x.refuse(k, no), m.refuse(k, no)); }
            case 4: { int s = size(); return said(of("skip", s), x.skip(s), m.skip(s)); }
            case 5: { int k = any(0, m.kerbs.size() - 1), w = any(0, 6);
                return said(of("about", k, w), x.about(k, w), m.about(k, w)); }
            case 6: { int c = any(0, 99), d = any(0, 99), s = any(1, 63), f = any(0, 12), t = any(f, 23), e = any(0, 500);
                return said(of("tip", c, d, s, f, t, e), x.tip(c, d, s, f, t, e), m.tip(c, d, s, f, t, e)); }
            case 7: { int t = any(0, m.tips.size() - 1), d = any(-50, 50);
                return said(of("drift", t, d), x.drift(t, d), m.drift(t, d)); }
            case 8: { int k = kerb(), f = any(Math.max(0, m.day - 3), Math.min(399, m.day + 5)), t = f + any(0, 13);
                return said(of("permit", k, f, t), x.permit(k, f, t), m.permit(k, f, t)); }
            case 9: { int k = any(0, m.kerbs.size() - 1), s = any(0, m.skips.size() - 1);
                return random.nextInt(3) == 0
                    ? said(of("where", s, n), x.where(s, n), m.where(s, n)) : letOne(s, random.nextBoolean() ? k : kerb()); }
            case 10: { int t = any(0, 4); return random.nextInt(3) > 0 ? text() : said(of("wipe", t), x.wipe(t), m.wipe(t)); }
            case 11: { int t = any(0, 4); return said(of("fault", t), x.fault(t), m.fault(t)); }
            case 12: { int c = any(0, 3), w = any(0, 5); return said(of("law", c, w), x.law(c, w), m.law(c, w)); }
            case 13: { int s = any(0, 5); return said(of("tax", s, b), x.tax(s, b), m.tax(s, b)); }
            case 14: { int w = any(0, 11); return said(of("count", w), x.count(w), m.count(w)); }
            default: return text();
        }
    }

    private long[] letOne(int s, int k) {
        int t = random.nextInt(3) > 0 ? 1 : any(0, 5);
        int l = any(m.day, Math.min(399, m.day + 6));
        return said(of("let", s, k, t, l), x.let(s, k, t, l), m.let(s, k, t, l));
    }

    /** Some bytes of a text in a row, mostly such as the text can go on with. */
    private long[] text() {
        int t = any(0, 4);
        String[] law = {"d20", "d5", "d99", "l3", "l0", "c0", "c12", "e", "h", "o999", "o7", "d0", "l12", ";", "x"};
        String[] tax = {"s0=100", "s1=999", "s2@5=30", "s0@20=7", "s3@399=1", "s1@3=40", "s5=5", "s6", "s0@400", ";", "="};
        String part = t == 4 ? tax[random.nextInt(tax.length)] : law[random.nextInt(law.length)];
        if (t >= 0 && t <= 4 && !m.texts[t].isEmpty() && random.nextInt(6) > 0) part = ";" + part;
        if (random.nextInt(9) == 0) part = part.substring(0, random.nextInt(part.length()));
        long[] both = {0, 0};
        for (int i = 0; i < part.length(); i++) {
            int b = part.charAt(i);
            both = said(of("type", t, b), x.type(t, b), m.type(t, b));
            if (both[0] != both[1]) return both;
        }
        int b = any(0, 255);
        return random.nextInt(60) == 0 ? said(of("type", t, b), x.type(t, b), m.type(t, b))
            : both[0] != both[1] ? both : said(of("fault", t), x.fault(t), m.fault(t));
    }

    private long[] askLets(int call) {
        int l = let();
        int lorry = random.nextInt(3) > 0 ? 2 : any(0, 5);
        int h = any(0, 200);
        int days = random.nextInt(3) == 0 ? any(0, 399) : any(0, 9);
        switch (call) {
            case 16: case 17: return letOne(skipInYard(), kerb());
            case 18: return said(of("scan", l), x.scan(l), m.scan(l));
            case 19: { int w = any(0, 8); return said(of("letIs", l, w), x.letIs(l, w), m.letIs(l, w)); }
            case 20: case 21: return said(of("fetch", l, lorry, h), x.fetch(l, lorry, h), m.fetch(l, lorry, h));
            case 22: { int s = skipInYard(), e = any(m.day, Math.min(399, m.day + 6));
                return said(of("swap", l, lorry, h, s, e), x.swap(l, lorry, h, s, e), m.swap(l, lorry, h, s, e)); }
            case 23: return random.nextBoolean() ? said("lapsed()", x.lapsed(), m.lapsed())
                : said(of("forgotten", days), x.forgotten(days), m.forgotten(days));
            case 24: { int i = any(0, 3); return said(of("forgets", days, i), x.forgets(days, i), m.forgets(days, i)); }
            case 25: return said(of("lamps", l), x.lamps(l), m.lamps(l));
            case 26: case 27: { int t = any(0, m.tips.size() - 1), w = any(1, heaviest), d = near(m.day, 1);
                return said(of("weigh", l, t, w, d), x.weigh(l, t, w, d), m.weigh(l, t, w, d)); }
            case 28: { int d = random.nextInt(3) > 0 ? -1 : day(); return said(of("asOf", d), x.asOf(d), m.asOf(d)); }
            case 29: { int w = any(0, 2); return said(of("weighs", l, w), x.weighs(l, w), m.weighs(l, w)); }
            case 30: { int w = any(0, 1); return said(of("over", l, w), x.over(l, w), m.over(l, w)); }
            default: { int t = random.nextBoolean() ? 1 : any(0, 5), s = size(), w = any(0, 3);
                return said(of("foretell", t, s, h, w), x.foretell(t, s, h, w), m.foretell(t, s, h, w)); }
        }
    }

    private long[] askSwaps(int call) {
        int l = let();
        int n = any(1, 3);
        int lorry = any(0, Math.max(0, n - 1));
        int week = random.nextInt(4) == 0 ? any(0, 57) : any(Math.max(0, m.day / 7 - 3), m.day / 7);
        int thief = random.nextInt(3) > 0 ? 2 : any(0, 5);
        int sort = any(0, 5);
        switch (call) {
            case 32: { int w = any(0, 2); return said(of("lost", thief, week, w), x.lost(thief, week, w), m.lost(thief, week, w)); }
            case 33: { int w = any(2, random.nextBoolean() ? 2 : 20);
                return said(of("thieving", thief, week, w), x.thieving(thief, week, w), m.thieving(thief, week, w)); }
            case 34: { int p = any(1, 60), s = any(0, 3); return said(of("draw", l, p, s), x.draw(l, p, s), m.draw(l, p, s)); }
            case 35: { int w = any(0, 2); return said(of("sorts", l, sort, w), x.sorts(l, sort, w), m.sorts(l, sort, w)); }
            case 36: return said(of("taxed", l), x.taxed(l), m.taxed(l));
            case 37: { int h = any(0, 23); return said(of("find", l, sort, h), x.find(l, sort, h), m.find(l, sort, h)); }
            case 38: { int w = any(0, 6); return said(of("bill", l, w), x.bill(l, w), m.bill(l, w)); }
            case 39: return said(of("guess", l), x.guess(l), m.guess(l));
            case 40: { int k = any(0, m.kerbs.size() - 1), s = any(2, 3);
                return said(of("task", k, s, sort), x.task(k, s, sort), m.task(k, s, sort)); }
            case 41: return random.nextInt(4) == 0 ? said("clear()", x.clear(), m.clear()) : reach();
            case 42: return said(of("plan", n), x.plan(n), m.plan(n));
            default: { int i = any(0, 3); return random.nextInt(3) == 0
                ? said(of("miles", n, lorry), x.miles(n, lorry), m.miles(n, lorry))
                : said(of("tour", n, lorry, i), x.tour(n, lorry, i), m.tour(n, lorry, i)); }
        }
    }

    private long[] reach() {
        int r = any(1, random.nextInt(3) == 0 ? 2000 : 500);
        return random.nextBoolean() ? said("bound()", x.bound(), m.bound()) : said(of("reach", r), x.reach(r), m.reach(r));
    }

    private long[] askSheets(int call) {
        int s = any(0, 3);
        int t = any(0, 3);
        int l = let();
        switch (call) {
            case 44: { int f = any(0, 2), n = random.nextInt(3) == 0 ? any(0, 90) : any(5, 8);
                return said(of("sheet", s, f, n), x.sheet(s, f, n), m.sheet(s, f, n)); }
            case 45: return random.nextInt(8) == 0 ? said(of("lose", s), x.lose(s), m.lose(s))
                : said("digest()", x.digest(), m.digest());
            case 46: case 47: case 48: case 49: { int f = form(s), i = any(0, 6), v = item();
                return said(of("put", s, f, i, v), x.put(s, f, i, v), m.put(s, f, i, v)); }
            case 50: case 51: { int f = form(s), i = any(0, 6); return said(of("get", s, f, i), x.get(s, f, i), m.get(s, f, i)); }
            case 52: case 53: { int i = any(0, 4), j = any(0, 4), n = any(0, 4);
                return said(of("copy", s, i, t, j, n), x.copy(s, i, t, j, n), m.copy(s, i, t, j, n)); }
            default: return said(of("write", l, s), x.write(l, s), m.write(l, s));
        }
    }
}
