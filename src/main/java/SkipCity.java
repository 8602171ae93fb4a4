import java.util.ArrayList;
import java.util.Arrays;

/** Skips in streets: their kerbs, permits, laws, lets, loads, bills and a day's swaps. */
public final class SkipCity {
    public static final int NONE = -1, BAD = -2, NOT = -3, FULL = -4;

    private static final int LEAST_INT = -2147483648;
    private static final int NO_DRIFT = -1000;
    private static final int FINAL_DAY = 399, FINAL_WEEK = 57, DAYS_OF_WEEK = 7, WEEK_END = 5;
    private static final int LATE_AFTER = 14;
    private static final int FARTHEST = 99, YARD = 50;
    private static final int BOROUGHS = 4, KERBS = 24, SKIPS = 40, TIPS = 6, PERMITS = 60, LETS = 60;
    private static final int SORTS = 6, TRADES = 6, LORRIES = 6, TASKS = 6, CREW = 3;
    private static final int GREATEST_SIZE = 12, GREATEST_HEIGHT = 200, GREATEST_WEIGHT = 3000;
    private static final int WEIGHINGS = 4, PIECES = 60;
    private static final int SAFE_WEIGHT = 120, SAFE_HEIGHT = 100, HEIGHT_FINE = 20;
    private static final int TEXTS = 5, TAX_TEXT = 4, TEXT_BYTES = 60;
    private static final int PERMIT_DAYS = 0, LAMPS = 1, DAY_COST = 2, NO_WEEK_END = 3, NO_HOLIDAY = 4, OVER_COST = 5;
    private static final int SHEETS = 4, FORMS = 3, ITEMS = 90;
    private static final int NULL = 1, INDEX = 2, CAST = 3, STORE = 4, SIZE = 5;
    private static final int BILL_PARTS = 6, LAMP_COST = 3;
    private static final int NOON = 12;
    // Above every sum of MILES that may be, and so small that sums with it do not wrap.
    private static final int FAR = 1000000;

    private int day;
    private int knownBy = NONE;
    private int finding;
    private int permitCount;
    private int holidayCount;
    private final boolean[] holidays = new boolean[FINAL_DAY + 1];
    private final BoroughLaw[] laws = new BoroughLaw[BOROUGHS];
    private final TaxLaw taxes = new TaxLaw();
    private final ArrayList<Kerb> kerbs = new ArrayList<>();
    private final ArrayList<Skip> skips = new ArrayList<>();
    private final ArrayList<Tip> tips = new ArrayList<>();
    private final ArrayList<Let> lets = new ArrayList<>();
    private final Planner planner = new Planner();
    private final Sheet[] sheets = new Sheet[SHEETS];
    private final long[] ways = waysToChoose();

    public SkipCity() {
        for (int i = 0; i < laws.length; i++) {
            laws[i] = new BoroughLaw();
        }
        for (int i = 0; i < sheets.length; i++) {
            sheets[i] = new Sheet();
        }
    }

    // ---- the city

    public int pass(int n) {
        if (!within(n, 1, 100) || day + n > FINAL_DAY) {
            return BAD;
        }
        day += n;
        return day;
    }

    public int holiday(int day, boolean is) {
        if (!isDay(day)) {
            return BAD;
        }
        if (holidays[day] == is) {
            return 0;
        }
        holidays[day] = is;
        holidayCount += is ? 1 : -1;
        return 1;
    }

    public int kerb(int borough, int x, int y, int feet) {
        if (!within(borough, 0, BOROUGHS - 1) || !isPlace(x, y) || !within(feet, 4, 60)) {
            return BAD;
        }
        if (kerbs.size() >= KERBS) {
            return FULL;
        }
        kerbs.add(new Kerb(kerbs.size(), borough, laws[borough], x, y, feet));
        return kerbs.size() - 1;
    }

    public int refuse(int kerb, boolean is) {
        Kerb at = kerbAt(kerb);
        if (at == null) {
            return BAD;
        }
        if (at.refused == is) {
            return 0;
        }
        at.refused = is;
        return 1;
    }

    public int about(int kerb, int what) {
        Kerb at = kerbAt(kerb);
        if (at == null) {
            return BAD;
        }
        switch (what) {
            case 0: return at.borough;
            case 1: return at.x;
            case 2: return at.y;
            case 3: return at.feet;
            case 4: return at.refused ? 1 : 0;
            case 5: return freeFeet(at);
            case 6: return isMarked(at.permitted, day) ? 1 : 0;
            default: return BAD;
        }
    }

    public int skip(int size) {
        if (!isSize(size)) {
            return BAD;
        }
        if (skips.size() >= SKIPS) {
            return FULL;
        }
        skips.add(new Skip(skips.size(), size));
        return skips.size() - 1;
    }

    public int where(int skip, int what) {
        Skip box = skipAt(skip);
        if (box == null) {
            return BAD;
        }
        Let in = box.let;
        switch (what) {
            case 0: return box.size;
            case 1: return in == null ? NONE : in.kerb.number;
            case 2: return in == null ? NONE : in.number;
            default: return BAD;
        }
    }

    public int tip(int x, int y, int sorts, int from, int to, int fee) {
        if (!isPlace(x, y) || !within(sorts, 1, 63) || !within(from, 0, 23) || !within(to, from, 23)
                || !within(fee, 0, 500)) {
            return BAD;
        }
        if (tips.size() >= TIPS) {
            return FULL;
        }
        tips.add(new Tip(x, y, sorts, from, to, fee));
        planner.forgetPlan();
        return tips.size() - 1;
    }

    public int drift(int tip, int d) {
        Tip at = tipAt(tip);
        if (at == null || !within(d, -50, 50)) {
            return NO_DRIFT;
        }
        int was = at.drift;
        at.drift = d;
        return was;
    }

    public int permit(int kerb, int from, int to) {
        Kerb at = kerbAt(kerb);
        if (at == null || !isDay(from) || !within(to, from, FINAL_DAY)) {
            return BAD;
        }
        if (to - from + 1 > at.law.valueOf(PERMIT_DAYS)) {
            return NOT;
        }
        if (permitCount >= PERMITS) {
            return FULL;
        }
        for (int d = from; d <= to; d++) {
            at.permitted[d] = true;
        }
        permitCount++;
        return permitCount - 1;
    }

    private int freeFeet(Kerb kerb) {
        int free = kerb.feet;
        for (int i = 0; i < skips.size(); i++) {
            Skip box = skips.get(i);
            if (box.let != null && box.let.kerb == kerb) {
                free -= box.feetTaken();
            }
        }
        return free;
    }

    // ---- texts

    public int type(int text, int b) {
        Text to = textAt(text);
        if (to == null || !within(b, 0, 255)) {
            return BAD;
        }
        return to.length >= TEXT_BYTES ? FULL : to.append(b);
    }

    public int wipe(int text) {
        Text of = textAt(text);
        return of == null ? BAD : of.makeEmpty();
    }

    public int fault(int text) {
        Text of = textAt(text);
        return of == null ? BAD : of.faultPlace;
    }

    public int law(int borough, int what) {
        if (!within(borough, 0, BOROUGHS - 1) || !within(what, 0, OVER_COST)) {
            return BAD;
        }
        return laws[borough].valueOf(what);
    }

    public int tax(int sort, int day) {
        if (!isSort(sort) || !isDay(day)) {
            return BAD;
        }
        return taxes.coins(sort, day);
    }

    private Text textAt(int text) {
        if (text == TAX_TEXT) {
            return taxes;
        }
        return within(text, 0, BOROUGHS - 1) ? laws[text] : null;
    }

    // ---- lets

    public int let(int skip, int kerb, int trade, int last) {
        Skip box = skipAt(skip);
        Kerb at = kerbAt(kerb);
        if (box == null || at == null || !within(trade, 0, TRADES - 1) || !isLastDay(last) || box.let != null) {
            return BAD;
        }
        if (!mayStandAt(at) || freeFeet(at) < box.feetTaken() || !isWorkDay(at)) {
            return NOT;
        }
        return lets.size() >= LETS ? FULL : begin(box, at, trade, last);
    }

    public int scan(int let) {
        Let of = letAt(let);
        if (of == null) {
            return BAD;
        }
        if (!of.stands()) {
            return NOT;
        }
        of.scanned = day;
        return 1;
    }

    public int letIs(int let, int what) {
        Let of = letAt(let);
        if (of == null) {
            return BAD;
        }
        Load load = of.load;
        switch (what) {
            case 0: return of.skip.number;
            case 1: return of.kerb.number;
            case 2: return of.trade;
            case 3: return of.begun;
            case 4: return of.last;
            case 5: return of.scanned;
            case 6: return load == null ? NONE : load.day;
            case 7: return load == null ? NONE : load.lorry;
            case 8: return load == null ? NONE : load.height;
            default: return BAD;
        }
    }

    public int fetch(int let, int lorry, int height) {
        Let of = letAt(let);
        if (of == null || !isLorry(lorry) || !within(height, 0, GREATEST_HEIGHT)) {
            return BAD;
        }
        if (!mayBeFetched(of)) {
            return NOT;
        }
        takeAway(of, lorry, height);
        return 1;
    }

    public int swap(int let, int lorry, int height, int skip, int last) {
        Let of = letAt(let);
        Skip box = skipAt(skip);
        if (of == null || !isLorry(lorry) || !within(height, 0, GREATEST_HEIGHT) || box == null || !isLastDay(last)) {
            return BAD;
        }
        if (!mayBeFetched(of) || box.let != null || box.size != of.skip.size || !mayStandAt(of.kerb)) {
            return NOT;
        }
        if (lets.size() >= LETS) {
            return FULL;
        }
        takeAway(of, lorry, height);
        return begin(box, of.kerb, of.trade, last);
    }

    public int lapsed() {
        int n = 0;
        for (int i = 0; i < lets.size(); i++) {
            Let let = lets.get(i);
            if (let.stands() && !isMarked(let.kerb.permitted, day)) {
                n++;
            }
        }
        return n;
    }

    public int forgotten(int days) {
        if (!isDay(days)) {
            return BAD;
        }
        int n = 0;
        for (int i = 0; i < lets.size(); i++) {
            if (lets.get(i).isForgotten(day, days)) {
                n++;
            }
        }
        return n;
    }

    public int forgets(int days, int i) {
        if (!isDay(days) || i < 0) {
            return BAD;
        }
        int before = i;
        for (int k = 0; k < lets.size(); k++) {
            if (lets.get(k).isForgotten(day, days)) {
                if (before == 0) {
                    return k;
                }
                before--;
            }
        }
        return NONE;
    }

    public int lamps(int let) {
        Let of = letAt(let);
        return of == null ? BAD : lampsOf(of);
    }

    private boolean mayStandAt(Kerb kerb) {
        return !kerb.refused && isMarked(kerb.permitted, day);
    }

    /** Whether by LAW a SKIP may come to the KERB, or be fetched from it, at the DAY. */
    private boolean isWorkDay(Kerb kerb) {
        boolean weekEnd = day % DAYS_OF_WEEK >= WEEK_END && kerb.law.valueOf(NO_WEEK_END) == 1;
        boolean holiday = isMarked(holidays, day) && kerb.law.valueOf(NO_HOLIDAY) == 1;
        return !weekEnd && !holiday;
    }

    private boolean mayBeFetched(Let let) {
        return let.stands() && isWorkDay(let.kerb);
    }

    private int begin(Skip box, Kerb kerb, int trade, int last) {
        Let let = new Let(lets.size(), box, kerb, trade, day, last);
        box.let = let;
        lets.add(let);
        return let.number;
    }

    private void takeAway(Let let, int lorry, int height) {
        let.load = new Load(lorry, day, height);
        let.skip.let = null;
    }

    private int lampsOf(Let let) {
        return let.kerb.law.valueOf(LAMPS) * let.nights(day);
    }

    // ---- weights

    public int weigh(int let, int tip, int weight, int told) {
        Let of = letAt(let);
        Tip at = tipAt(tip);
        if (of == null || at == null || !within(weight, 1, GREATEST_WEIGHT) || !isDay(told)) {
            return BAD;
        }
        Load load = of.load;
        if (load == null || told > day || !load.mayBeToldOn(told)) {
            return NOT;
        }
        if (load.weighings >= WEIGHINGS) {
            return FULL;
        }
        load.addWeight(tip, Math.max(1, weight - at.drift), told);
        return 1;
    }

    public int asOf(int day) {
        if (day != NONE && !isDay(day)) {
            return BAD;
        }
        int was = knownBy;
        knownBy = day;
        return was;
    }

    public int weighs(int let, int what) {
        Let of = letAt(let);
        if (of == null || !within(what, 0, 2)) {
            return BAD;
        }
        return of.load == null ? NOT : of.load.told(what, knownBy);
    }

    public int over(int let, int what) {
        Let of = letAt(let);
        if (of == null || !within(what, 0, 1)) {
            return BAD;
        }
        Load load = of.load;
        if (load == null) {
            return NOT;
        }
        return what == 0 ? overweight(of, knownWeight(load)) : Math.max(0, load.height - SAFE_HEIGHT);
    }

    public int foretell(int trade, int size, int height, int what) {
        if (!within(trade, 0, TRADES - 1) || !isSize(size) || !within(height, 1, GREATEST_HEIGHT)
                || !within(what, 0, 3)) {
            return BAD;
        }
        return foretold(trade, size, height, what, null);
    }

    public int lost(int lorry, int week, int what) {
        if (!isLorry(lorry) || !within(week, 0, FINAL_WEEK) || !within(what, 0, 2)) {
            return LEAST_INT;
        }
        return lostBy(lorry, week, what);
    }

    public int thieving(int lorry, int week, int n) {
        if (!isLorry(lorry) || !within(week, 0, FINAL_WEEK) || !within(n, 2, 20) || week + n - 1 > FINAL_WEEK) {
            return BAD;
        }
        for (int w = week; w < week + n; w++) {
            if (lostBy(lorry, w, 2) == 0 || lostBy(lorry, w, 0) * 10 <= lostBy(lorry, w, 1)) {
                return 0;
            }
        }
        return 1;
    }

    /** What a LOAD weighs, as far as is known; 0 if that is not known, as none weighs less than 1. */
    private int knownWeight(Load load) {
        return Math.max(0, load.told(0, knownBy));
    }

    private static int overweight(Let let, int weight) {
        return Math.max(0, weight - SAFE_WEIGHT * let.skip.size);
    }

    /** FORETOLD as foretell() has it, by all LOADS but that of a LET (null: by all). */
    private int foretold(int trade, int size, int height, int what, Let aside) {
        int n = 0;
        int least = 0;
        int sum = 0;
        int greatest = 0;
        for (int i = 0; i < lets.size(); i++) {
            Let let = lets.get(i);
            Load load = let.load;
            if (load == null || let == aside || let.trade != trade || let.skip.size != size
                    || load.height < 1 || knownWeight(load) == 0) {
                continue;
            }
            int weight = knownWeight(load) * height / load.height;
            least = n == 0 ? weight : Math.min(least, weight);
            greatest = Math.max(greatest, weight);
            sum += weight;
            n++;
        }
        if (what == 3) {
            return n;
        }
        if (n == 0) {
            return (60 + 30 * what) * size * height / 100;
        }
        return what == 0 ? least : what == 1 ? sum / n : greatest;
    }

    /** The mean FORETOLD for a LOAD by all others. */
    private int expected(Let let, Load load) {
        return foretold(let.trade, let.skip.size, load.height, 1, let);
    }

    private int lostBy(int lorry, int week, int what) {
        int foretold = 0;
        int weighed = 0;
        int n = 0;
        for (int i = 0; i < lets.size(); i++) {
            Let let = lets.get(i);
            Load load = let.load;
            if (load == null || load.lorry != lorry || load.day / DAYS_OF_WEEK != week) {
                continue;
            }
            int weight = knownWeight(load);
            if (weight > 0 || day - load.day >= LATE_AFTER) {
                foretold += expected(let, load);
                weighed += weight;
                n++;
            }
        }
        return what == 0 ? foretold - weighed : what == 1 ? foretold : n;
    }

    // ---- sorts

    public int draw(int let, int pieces, int s) {
        Let of = letAt(let);
        Sheet sheet = sheetAt(s);
        if (of == null || !within(pieces, 1, PIECES) || sheet == null) {
            return BAD;
        }
        if (sheet.isLost()) {
            return found(NULL);
        }
        if (sheet.size < SORTS) {
            return found(INDEX);
        }
        int n = sheet.sumOfFirst(SORTS, pieces);
        if (of.load == null || of.load.isDrawn() || n < 1) {
            return NOT;
        }
        for (int sort = 0; sort < SORTS; sort++) {
            of.load.drawn[sort] = sheet.itemAt(sort);
        }
        of.load.pieces = pieces;
        of.load.drawnInAll = n;
        return n;
    }

    public int sorts(int let, int sort, int what) {
        Let of = letAt(let);
        if (of == null || !isSort(sort) || !within(what, 0, 2)) {
            return BAD;
        }
        Load load = of.load;
        if (load == null || !load.isDrawn()) {
            return NOT;
        }
        int k = load.drawn[sort];
        if (what == 0) {
            return k;
        }
        return what == 1 ? leastLikely(load, k) : greatestLikely(load, k);
    }

    public int taxed(int let) {
        Let of = letAt(let);
        if (of == null) {
            return BAD;
        }
        return of.load == null || knownWeight(of.load) == 0 ? NOT : taxOf(of.load);
    }

    public int find(int let, int sort, int hour) {
        Let of = letAt(let);
        if (of == null || !isSort(sort) || !within(hour, 0, 23)) {
            return BAD;
        }
        int nearest = NONE;
        int least = FAR;
        for (int i = 0; i < tips.size(); i++) {
            Tip tip = tips.get(i);
            int miles = tip.milesTo(of.kerb.x, of.kerb.y);
            if (tip.takes(sort, hour) && miles < least) {
                least = miles;
                nearest = i;
            }
        }
        return nearest;
    }

    /** Fewer than the k that were DRAWN cannot be there, so the search begins at them. */
    private int leastLikely(Load load, int k) {
        for (int all = k; all <= load.pieces; all++) {
            if (isLikely(load, k, all)) {
                return all;
            }
        }
        return NONE;
    }

    /** What was DRAWN of other SORTS is not of this one, so the search begins at all the rest. */
    private int greatestLikely(Load load, int k) {
        for (int all = load.pieces - (load.drawnInAll - k); all >= 0; all--) {
            if (isLikely(load, k, all)) {
                return all;
            }
        }
        return NONE;
    }

    /** Whether k of what was DRAWN are likely with so many of the SORT in all. The sums stay below 2 to the 63rd. */
    private boolean isLikely(Load load, int k, int all) {
        int n = load.drawnInAll;
        int others = load.pieces - all;
        long any = choices(load.pieces, n);
        long fewer = 0;
        for (int j = 0; j < k; j++) {
            fewer += choices(all, j) * choices(others, n - j);
        }
        long atMost = fewer + choices(all, k) * choices(others, n - k);
        long atLeast = any - fewer;
        return 40 * atMost >= any && 40 * atLeast >= any;
    }

    /** In how many ways k of n are chosen. */
    private long choices(int n, int k) {
        return within(n, 0, PIECES) && within(k, 0, n) ? ways[n * (n + 1) / 2 + k] : 0;
    }

    /** Pascal's triangle, row behind row. */
    private static long[] waysToChoose() {
        long[] triangle = new long[(PIECES + 1) * (PIECES + 2) / 2];
        for (int n = 0; n <= PIECES; n++) {
            int row = n * (n + 1) / 2;
            triangle[row] = 1;
            triangle[row + n] = 1;
            for (int k = 1; k < n; k++) {
                triangle[row + k] = triangle[row - n + k - 1] + triangle[row - n + k];
            }
        }
        return triangle;
    }

    private int taxOf(Load load) {
        int weight = knownWeight(load);
        if (!load.isDrawn()) {
            return weight * taxes.coins(0, load.day) / 100;
        }
        int sum = 0;
        for (int sort = 0; sort < SORTS; sort++) {
            sum += weight * load.drawn[sort] * taxes.coins(sort, load.day) / (load.drawnInAll * 100);
        }
        return sum;
    }

    // ---- bills

    public int bill(int let, int what) {
        Let of = letAt(let);
        if (of == null || !within(what, 0, BILL_PARTS)) {
            return BAD;
        }
        return of.load == null ? NOT : billOf(of, of.load, what);
    }

    public int guess(int let) {
        Let of = letAt(let);
        if (of == null) {
            return BAD;
        }
        Load load = of.load;
        if (load == null) {
            return NOT;
        }
        int weight = expected(of, load);
        return permitCost(of) + LAMP_COST * lampsOf(of) + skipCost(of) + overCost(of, load, weight)
                + weight * taxes.coins(0, load.day) / 100 + feeOf(0, weight);
    }

    private int billOf(Let let, Load load, int what) {
        if (what > 0) {
            return billPart(let, load, what);
        }
        int sum = 0;
        for (int part = 1; part <= BILL_PARTS; part++) {
            sum += billPart(let, load, part);
        }
        return sum;
    }

    /** What is not known to be WEIGHED weighs 0 here, which leaves it out of every sum. */
    private int billPart(Let let, Load load, int what) {
        switch (what) {
            case 1: return permitCost(let);
            case 2: return LAMP_COST * lampsOf(let);
            case 3: return skipCost(let);
            case 4: return overCost(let, load, knownWeight(load));
            case 5: return taxOf(load);
            default: return feeOf(load.told(1, knownBy), knownWeight(load));
        }
    }

    private int permitCost(Let let) {
        return let.kerb.law.valueOf(DAY_COST) * (let.nights(day) + 1);
    }

    private int skipCost(Let let) {
        return let.skip.size * (10 + let.nights(day) + 1);
    }

    private int overCost(Let let, Load load, int weight) {
        int fine = load.height > SAFE_HEIGHT ? HEIGHT_FINE : 0;
        return overweight(let, weight) * let.kerb.law.valueOf(OVER_COST) / 100 + fine;
    }

    private int feeOf(int tip, int weight) {
        Tip at = tipAt(tip);
        return at == null ? 0 : at.fee * weight / 100;
    }

    // ---- swaps

    public int task(int kerb, int size, int sort) {
        Kerb at = kerbAt(kerb);
        if (at == null || !isSize(size) || !isSort(sort)) {
            return BAD;
        }
        if (planner.tasks.size() >= TASKS) {
            return FULL;
        }
        planner.tasks.add(new Task(at, size, sort));
        planner.forgetPlan();
        return planner.tasks.size();
    }

    public int clear() {
        int had = planner.tasks.size();
        planner.tasks.clear();
        planner.forgetPlan();
        return had;
    }

    public int reach(int miles) {
        if (!within(miles, 1, 2000)) {
            return BAD;
        }
        int was = planner.reach;
        planner.reach = miles;
        planner.forgetPlan();
        return was;
    }

    public int plan(int n) {
        if (!within(n, 1, CREW)) {
            return BAD;
        }
        return planner.hasPlan(n, tips) ? planner.leastMiles : NOT;
    }

    public int tour(int n, int lorry, int i) {
        if (!within(n, 1, CREW) || !within(lorry, 0, n - 1) || i < 0) {
            return BAD;
        }
        return planner.hasPlan(n, tips) ? planner.taskOf(lorry, i) : NOT;
    }

    public int miles(int n, int lorry) {
        if (!within(n, 1, CREW) || !within(lorry, 0, n - 1)) {
            return BAD;
        }
        return planner.hasPlan(n, tips) ? planner.milesOf(lorry) : NOT;
    }

    public int bound() {
        return planner.fromBelow(tips);
    }

    // ---- sheets

    public int sheet(int s, int form, int n) {
        Sheet sheet = sheetAt(s);
        if (sheet == null || !isForm(form) || n > ITEMS) {
            return BAD;
        }
        if (n < 0) {
            return found(SIZE);
        }
        sheet.begin(form, n);
        return n;
    }

    public int lose(int s) {
        Sheet sheet = sheetAt(s);
        if (sheet == null) {
            return BAD;
        }
        if (sheet.isLost()) {
            return found(NULL);
        }
        int had = sheet.size;
        sheet.begin(NONE, 0);
        return had;
    }

    public int put(int s, int form, int i, int v) {
        Sheet sheet = sheetAt(s);
        if (sheet == null || !isForm(form)) {
            return BAD;
        }
        int number = sheet.findingAt(form, i);
        if (number != 0) {
            return found(number);
        }
        sheet.store(i, v);
        return 1;
    }

    public int get(int s, int form, int i) {
        Sheet sheet = sheetAt(s);
        if (sheet == null || !isForm(form)) {
            return LEAST_INT;
        }
        int number = sheet.findingAt(form, i);
        if (number != 0) {
            finding = number;
            return LEAST_INT;
        }
        return sheet.itemAt(i);
    }

    public int copy(int s, int i, int t, int j, int n) {
        Sheet from = sheetAt(s);
        Sheet to = sheetAt(t);
        if (from == null || to == null) {
            return BAD;
        }
        if (from.isLost() || to.isLost()) {
            return found(NULL);
        }
        if (from.form != to.form) {
            return found(STORE);
        }
        if (!from.hasItems(i, n) || !to.hasItems(j, n)) {
            return found(INDEX);
        }
        System.arraycopy(from.items, i, to.items, j, n);
        return 1;
    }

    public int write(int let, int s) {
        Let of = letAt(let);
        Sheet sheet = sheetAt(s);
        if (of == null || sheet == null) {
            return BAD;
        }
        if (sheet.isLost()) {
            return found(NULL);
        }
        if (of.load == null) {
            return NOT;
        }
        int n = Math.min(sheet.size, BILL_PARTS + 1);
        for (int what = 0; what < n; what++) {
            sheet.store(what, billOf(of, of.load, what));
        }
        return n;
    }

    public int count(int what) {
        switch (what) {
            case 0: return day;
            case 1: return kerbs.size();
            case 2: return skips.size();
            case 3: return skipsInYard();
            case 4: return tips.size();
            case 5: return permitCount;
            case 6: return lets.size();
            case 7: return loadsKnown();
            case 8: return finding;
            case 9: return planner.tasks.size();
            case 10: return bytesOfTexts();
            case 11: return holidayCount;
            default: return BAD;
        }
    }

    public long digest() {
        long h = 17;
        for (int what = 0; what <= 11; what++) {
            if (what != 8) {
                h = 31 * h + count(what);
            }
        }
        for (int i = 0; i < kerbs.size(); i++) {
            for (int what = 4; what <= 6; what++) {
                h = 31 * h + about(i, what);
            }
        }
        for (int i = 0; i < skips.size(); i++) {
            h = 31 * h + where(i, 1);
        }
        for (int i = 0; i < lets.size(); i++) {
            h = 31 * h + letIs(i, 5);
            h = 31 * h + letIs(i, 6);
            h = 31 * h + lamps(i);
            h = 31 * h + weighs(i, 0);
            h = 31 * h + bill(i, 0);
        }
        for (int i = 0; i < TEXTS; i++) {
            h = 31 * h + fault(i);
        }
        h = 31 * h + lapsed();
        return 31 * h + plan(2);
    }

    private int skipsInYard() {
        int n = 0;
        for (int i = 0; i < skips.size(); i++) {
            if (skips.get(i).let == null) {
                n++;
            }
        }
        return n;
    }

    private int loadsKnown() {
        int n = 0;
        for (int i = 0; i < lets.size(); i++) {
            Load load = lets.get(i).load;
            if (load != null && knownWeight(load) > 0) {
                n++;
            }
        }
        return n;
    }

    private int bytesOfTexts() {
        int n = taxes.length;
        for (int i = 0; i < laws.length; i++) {
            n += laws[i].length;
        }
        return n;
    }

    private int found(int number) {
        finding = number;
        return -10 - number;
    }

    // ---- what numbers may be, and what they name (null: nothing)

    private static boolean within(int v, int least, int greatest) {
        return v >= least && v <= greatest;
    }

    private static boolean isDay(int day) {
        return within(day, 0, FINAL_DAY);
    }

    private boolean isLastDay(int last) {
        return within(last, day, FINAL_DAY);
    }

    private static boolean isPlace(int x, int y) {
        return within(x, 0, FARTHEST) && within(y, 0, FARTHEST);
    }

    private static boolean isSize(int size) {
        return within(size, 1, GREATEST_SIZE);
    }

    private static boolean isSort(int sort) {
        return within(sort, 0, SORTS - 1);
    }

    private static boolean isLorry(int lorry) {
        return within(lorry, 0, LORRIES - 1);
    }

    private static boolean isForm(int form) {
        return within(form, 0, FORMS - 1);
    }

    private static boolean isMarked(boolean[] days, int day) {
        return within(day, 0, days.length - 1) && days[day];
    }

    private static int milesBetween(int x, int y, int toX, int toY) {
        return Math.abs(x - toX) + Math.abs(y - toY);
    }

    private Kerb kerbAt(int kerb) {
        return within(kerb, 0, kerbs.size() - 1) ? kerbs.get(kerb) : null;
    }

    private Skip skipAt(int skip) {
        return within(skip, 0, skips.size() - 1) ? skips.get(skip) : null;
    }

    private Tip tipAt(int tip) {
        return within(tip, 0, tips.size() - 1) ? tips.get(tip) : null;
    }

    private Let letAt(int let) {
        return within(let, 0, lets.size() - 1) ? lets.get(let) : null;
    }

    private Sheet sheetAt(int s) {
        return within(s, 0, sheets.length - 1) ? sheets[s] : null;
    }

    private static final class Kerb {
        final int number;
        final int borough;
        final BoroughLaw law;
        final int x;
        final int y;
        final int feet;
        boolean refused;
        // PERMITS never end early, so the DAYS that any of them covers say all that is asked of them.
        final boolean[] permitted = new boolean[FINAL_DAY + 1];

        Kerb(int number, int borough, BoroughLaw law, int x, int y, int feet) {
            this.number = number;
            this.borough = borough;
            this.law = law;
            this.x = x;
            this.y = y;
            this.feet = feet;
        }
    }

    private static final class Skip {
        final int number;
        final int size;
        // null: it is in THE YARD.
        Let let;

        Skip(int number, int size) {
            this.number = number;
            this.size = size;
        }

        int feetTaken() {
            return 4 + size;
        }
    }

    private static final class Tip {
        final int x;
        final int y;
        final int sorts;
        final int from;
        final int to;
        final int fee;
        int drift;

        Tip(int x, int y, int sorts, int from, int to, int fee) {
            this.x = x;
            this.y = y;
            this.sorts = sorts;
            this.from = from;
            this.to = to;
            this.fee = fee;
        }

        boolean takes(int sort, int hour) {
            return (sorts >> sort & 1) == 1 && from <= hour && hour <= to;
        }

        int milesTo(int toX, int toY) {
            return milesBetween(x, y, toX, toY);
        }
    }

    private static final class Let {
        final int number;
        final Skip skip;
        final Kerb kerb;
        final int trade;
        final int begun;
        final int last;
        int scanned;
        // null: its SKIP stands yet.
        Load load;

        Let(int number, Skip skip, Kerb kerb, int trade, int begun, int last) {
            this.number = number;
            this.skip = skip;
            this.kerb = kerb;
            this.trade = trade;
            this.begun = begun;
            this.last = last;
            this.scanned = begun;
        }

        boolean stands() {
            return load == null;
        }

        boolean isForgotten(int day, int days) {
            return stands() && day > last && day - scanned > days;
        }

        int nights(int day) {
            return (load == null ? day : load.day) - begun;
        }
    }

    private static final class Load {
        final int lorry;
        final int day;
        final int height;
        int weighings;
        // Of each weighing: the weight, the TIP, the DAY it was told.
        private final int[] weights = new int[WEIGHINGS];
        private final int[] tipNumbers = new int[WEIGHINGS];
        private final int[] daysTold = new int[WEIGHINGS];
        int pieces;
        int drawnInAll;
        final int[] drawn = new int[SORTS];

        Load(int lorry, int day, int height) {
            this.lorry = lorry;
            this.day = day;
            this.height = height;
        }

        boolean mayBeToldOn(int told) {
            int before = weighings - 1;
            return told >= day && (!within(before, 0, WEIGHINGS - 1) || told > daysTold[before]);
        }

        void addWeight(int tip, int weight, int told) {
            if (weighings < WEIGHINGS) {
                weights[weighings] = weight;
                tipNumbers[weighings] = tip;
                daysTold[weighings] = told;
                weighings++;
            }
        }

        /** The weight (what = 0), TIP (1) or DAY (2) of the latest weighing that is known by a DAY; NOT. */
        int told(int what, int knownBy) {
            for (int i = Math.min(weighings, WEIGHINGS) - 1; i >= 0; i--) {
                if (knownBy == NONE || daysTold[i] <= knownBy) {
                    return what == 0 ? weights[i] : what == 1 ? tipNumbers[i] : daysTold[i];
                }
            }
            return NOT;
        }

        boolean isDrawn() {
            return drawnInAll > 0;
        }
    }

    /** Bytes that are read as parts with ; between them, anew at each change. */
    private abstract static class Text {
        private final int[] bytes = new int[TEXT_BYTES];
        int length;
        int faultPlace = NONE;
        // Where reading stands, and the number that was read last.
        int place;
        int number;

        abstract void setDefaults();

        /** Reads the part at the place: the FAULT, or NONE. */
        abstract int readPart();

        final int append(int b) {
            if (length < TEXT_BYTES) {
                bytes[length] = b;
                length++;
            }
            readAgain();
            return length;
        }

        final int makeEmpty() {
            int had = length;
            length = 0;
            readAgain();
            return had;
        }

        private void readAgain() {
            setDefaults();
            place = 0;
            faultPlace = length == 0 ? NONE : readParts();
            if (faultPlace != NONE) {
                setDefaults();
            }
        }

        private int readParts() {
            for (int parts = 0; parts < TEXT_BYTES; parts++) {
                int fault = readPart();
                if (fault != NONE || place >= length) {
                    return fault;
                }
                if (!goesOnWith(';')) {
                    return place;
                }
            }
            return place;
        }

        /** The byte at the place; NONE behind the last one. */
        final int next() {
            return place >= 0 && place < length && place < bytes.length ? bytes[place] : NONE;
        }

        final boolean goesOnWith(int b) {
            if (next() != b) {
                return false;
            }
            place++;
            return true;
        }

        /** Reads a number of one to so many figures: the FAULT, or NONE. */
        final int readNumber(int figures, int least, int greatest) {
            int first = place;
            number = 0;
            while (place < first + figures && within(next(), '0', '9')) {
                number = number * 10 + next() - '0';
                place++;
            }
            return place == first || !within(number, least, greatest) ? first : NONE;
        }
    }

    private static final class BoroughLaw extends Text {
        // In the order of law()'s what; a letter without figures stands alone.
        private static final char[] LETTERS = {'d', 'l', 'c', 'e', 'h', 'o'};
        private static final int[] FIGURES = {2, 2, 2, 0, 0, 3};
        private static final int[] LEAST = {1, 0, 0, 0, 0, 0};
        private static final int[] GREATEST = {99, 9, 99, 0, 0, 999};
        private static final int[] DEFAULTS = {14, 2, 5, 0, 0, 40};

        private final int[] values = DEFAULTS.clone();
        private final boolean[] came = new boolean[LETTERS.length];

        int valueOf(int what) {
            return within(what, 0, values.length - 1) ? values[what] : 0;
        }

        void setDefaults() {
            for (int what = 0; what < LETTERS.length; what++) {
                values[what] = DEFAULTS[what];
                came[what] = false;
            }
        }

        int readPart() {
            int what = whatIsNext();
            if (what == NONE || came[what]) {
                return place;
            }
            place++;
            came[what] = true;
            if (FIGURES[what] == 0) {
                values[what] = 1;
                return NONE;
            }
            int fault = readNumber(FIGURES[what], LEAST[what], GREATEST[what]);
            values[what] = number;
            return fault;
        }

        private int whatIsNext() {
            for (int what = 0; what < LETTERS.length; what++) {
                if (next() == LETTERS[what]) {
                    return what;
                }
            }
            return NONE;
        }
    }

    private static final class TaxLaw extends Text {
        // The shortest part, with the ; behind it, has five bytes.
        private static final int PARTS = (TEXT_BYTES + 1) / 5;

        private final int[] sorts = new int[PARTS];
        private final int[] days = new int[PARTS];
        private final int[] coins = new int[PARTS];
        private int parts;

        /** TAX of a SORT on a DAY. */
        int coins(int sort, int day) {
            for (int i = Math.min(parts, PARTS) - 1; i >= 0; i--) {
                if (sorts[i] == sort && days[i] <= day) {
                    return coins[i];
                }
            }
            return 0;
        }

        void setDefaults() {
            parts = 0;
        }

        int readPart() {
            if (!goesOnWith('s')) {
                return place;
            }
            int fault = readNumber(1, 0, SORTS - 1);
            int sort = number;
            int from = 0;
            if (fault == NONE && goesOnWith('@')) {
                fault = readNumber(3, 0, FINAL_DAY);
                from = number;
            }
            if (fault != NONE) {
                return fault;
            }
            if (!goesOnWith('=')) {
                return place;
            }
            fault = readNumber(3, 0, 999);
            keep(sort, from, number);
            return fault;
        }

        private void keep(int sort, int from, int price) {
            if (parts < PARTS) {
                sorts[parts] = sort;
                days[parts] = from;
                coins[parts] = price;
                parts++;
            }
        }
    }

    private static final class Task {
        final Kerb kerb;
        final int size;
        final int sort;

        Task(Kerb kerb, int size, int sort) {
            this.kerb = kerb;
            this.size = size;
            this.sort = sort;
        }

        boolean mayGoTo(Tip tip) {
            return tip.takes(sort, NOON);
        }

        int milesFromYard() {
            return milesBetween(kerb.x, kerb.y, YARD, YARD);
        }

        /** The least MILES from its KERB over a TIP to a place; FAR without a TIP. */
        int milesByTip(ArrayList<Tip> tips, int toX, int toY) {
            int least = FAR;
            for (int i = 0; i < tips.size(); i++) {
                Tip tip = tips.get(i);
                if (mayGoTo(tip)) {
                    least = Math.min(least, tip.milesTo(kerb.x, kerb.y) + tip.milesTo(toX, toY));
                }
            }
            return least;
        }
    }

    /** The DAY's TASKS, and THE PLAN for them; a set of TASKS is a number with a bit for each. */
    private static final class Planner {
        // Legs begin at the KERBS of TASKS, by their numbers, or at THE YARD, behind them.
        private static final int FROM_YARD = TASKS;

        final ArrayList<Task> tasks = new ArrayList<>();
        int reach = 400;
        int leastMiles;
        // The number of LORRIES that the plan kept here is for; 0: none is kept.
        private int plannedFor;
        // From each place over a TIP to THE YARD, and to the next TASK's KERB.
        private final int[] homeward = new int[TASKS + 1];
        private final int[] onward = new int[(TASKS + 1) * TASKS];
        // Of each set, with the TASK to begin with: the least MILES from its KERB over all of them home.
        private final int[] remaining = new int[(1 << TASKS) * TASKS];
        private final int[] milesOfSet = new int[1 << TASKS];
        private final int[] sets = new int[CREW];
        private final int[] trial = new int[CREW];

        void forgetPlan() {
            plannedFor = 0;
        }

        boolean hasPlan(int n, ArrayList<Tip> tips) {
            if (plannedFor != n) {
                measureLegs(tips);
                measureSets();
                shareOut(n);
                plannedFor = n;
            }
            return leastMiles < FAR;
        }

        int milesOf(int lorry) {
            return milesOfSet[setOf(lorry)];
        }

        /** TASK i of a LORRY's row. */
        int taskOf(int lorry, int i) {
            int place = FROM_YARD;
            int left = setOf(lorry);
            for (int k = 0; k <= i && left != 0; k++) {
                place = leastBest(place, left);
                if (k == i || place == NONE) {
                    return place;
                }
                left &= ~(1 << place);
            }
            return NONE;
        }

        /** BOUND from below; NOT. */
        int fromBelow(ArrayList<Tip> tips) {
            if (tasks.isEmpty()) {
                return 0;
            }
            int sum = 0;
            int toKerb = FAR;
            int fromTip = FAR;
            for (int t = 0; t < tasks.size(); t++) {
                Task task = tasks.get(t);
                int toTip = FAR;
                for (int i = 0; i < tips.size(); i++) {
                    Tip tip = tips.get(i);
                    if (task.mayGoTo(tip)) {
                        toTip = Math.min(toTip, tip.milesTo(task.kerb.x, task.kerb.y));
                        fromTip = Math.min(fromTip, tip.milesTo(YARD, YARD));
                    }
                }
                if (toTip == FAR) {
                    return NOT;
                }
                sum += toTip;
                toKerb = Math.min(toKerb, task.milesFromYard());
            }
            return sum + toKerb + fromTip;
        }

        private int taskCount() {
            return Math.min(tasks.size(), TASKS);
        }

        private int setOf(int lorry) {
            return within(lorry, 0, CREW - 1) ? sets[lorry] : 0;
        }

        private void measureLegs(ArrayList<Tip> tips) {
            for (int i = 0; i < taskCount(); i++) {
                Task task = tasks.get(i);
                homeward[i] = task.milesByTip(tips, YARD, YARD);
                onward[FROM_YARD * TASKS + i] = task.milesFromYard();
                for (int j = 0; j < taskCount(); j++) {
                    Task next = tasks.get(j);
                    onward[i * TASKS + j] = task.size == next.size
                            ? task.milesByTip(tips, next.kerb.x, next.kerb.y)
                            : homeward[i] + next.milesFromYard();
                }
            }
        }

        /** A set without one of its TASKS is a smaller number, so it is measured before the set. */
        private void measureSets() {
            int count = taskCount();
            for (int set = 0; set < 1 << count; set++) {
                for (int i = 0; i < count; i++) {
                    if ((set >> i & 1) == 1) {
                        remaining[set * TASKS + i] = leastOn(i, set & ~(1 << i));
                    }
                }
                int miles = leastOn(FROM_YARD, set);
                milesOfSet[set] = miles > reach ? FAR : miles;
            }
        }

        /** The least MILES from a place over the TASKS that are left, home. */
        private int leastOn(int place, int left) {
            int least = left == 0 ? homeward[place] : FAR;
            int count = taskCount();
            for (int j = 0; j < count; j++) {
                if ((left >> j & 1) == 1) {
                    least = Math.min(least, milesOn(place, j, left));
                }
            }
            return least;
        }

        /** The least TASK to go on to with the least MILES; NONE without one. */
        private int leastBest(int place, int left) {
            int least = leastOn(place, left);
            for (int j = 0; j < taskCount(); j++) {
                if ((left >> j & 1) == 1 && milesOn(place, j, left) == least) {
                    return j;
                }
            }
            return NONE;
        }

        private int milesOn(int place, int next, int left) {
            return onward[place * TASKS + next] + remaining[left * TASKS + next];
        }

        /**
         * Tries the LORRIES of TASKS in their order, so that the first with the least MILES is the least. LORRIES
         * are alike: the least always has TASK 0 with LORRY 0.
         */
        private void shareOut(int n) {
            int ways = 1;
            for (int t = 1; t < taskCount(); t++) {
                ways *= n;
            }
            leastMiles = FAR;
            for (int way = 0; way < ways; way++) {
                int miles = milesOfWay(way, n);
                if (miles < leastMiles) {
                    leastMiles = miles;
                    System.arraycopy(trial, 0, sets, 0, CREW);
                }
            }
        }

        /** The figures of the way, to the base n, are the LORRIES of TASKS, the last TASK's the lowest. */
        private int milesOfWay(int way, int n) {
            Arrays.fill(trial, 0);
            int figures = way;
            for (int t = taskCount() - 1; t >= 0; t--) {
                trial[figures % n] |= 1 << t;
                figures /= n;
            }
            int miles = 0;
            for (int lorry = 0; lorry < n; lorry++) {
                miles += milesOfSet[trial[lorry]];
            }
            return miles;
        }
    }

    private static final class Sheet {
        final int[] items = new int[ITEMS];
        int size;
        // NONE: it is LOST.
        int form = NONE;

        boolean isLost() {
            return form == NONE;
        }

        void begin(int form, int size) {
            this.form = form;
            this.size = size;
            Arrays.fill(items, 0);
        }

        /** The number of the FINDING for its item i as of a FORM; 0 without one. */
        int findingAt(int asForm, int i) {
            if (isLost()) {
                return NULL;
            }
            if (form != asForm) {
                return CAST;
            }
            return within(i, 0, size - 1) ? 0 : INDEX;
        }

        boolean hasItems(int from, int n) {
            return from >= 0 && n >= 0 && n <= size && from <= size - n;
        }

        void store(int i, int v) {
            if (within(i, 0, size - 1) && size <= ITEMS) {
                items[i] = form == 0 ? (byte) v : form == 1 ? (short) v : v;
            }
        }

        int itemAt(int i) {
            return within(i, 0, size - 1) && size <= ITEMS ? items[i] : 0;
        }

        /** The first items together; NONE if one is below 0 or they are more than a limit. */
        int sumOfFirst(int n, int limit) {
            int sum = 0;
            for (int i = 0; i < n; i++) {
                int item = itemAt(i);
                if (item < 0 || item > limit - sum) {
                    return NONE;
                }
                sum += item;
            }
            return sum;
        }
    }
}
