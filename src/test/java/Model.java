import java.math.BigInteger;
import java.util.ArrayList;
import java.util.Arrays;
import java.util.HashSet;
import java.util.List;
import java.util.Set;
import java.util.regex.Matcher;
import java.util.regex.Pattern;

/**
 * The document once more, written apart from the program and as naively as can be: nothing is kept that can be
 * found anew, plans are found by trying all rows, and refusals are answered by leaving at once.
 */
final class Model {
    private static final int MIN = Integer.MIN_VALUE;

    int day = 0;
    int as = -1;
    int finding = 0;
    int miles = 400;
    final Set<Integer> holidays = new HashSet<>();
    final List<int[]> kerbs = new ArrayList<>();    // borough x y feet refused
    final List<Integer> skips = new ArrayList<>();  // size
    final List<int[]> tips = new ArrayList<>();     // x y sorts from to fee drift
    final List<int[]> permits = new ArrayList<>();  // kerb from to
    final List<int[]> lets = new ArrayList<>();     // skip kerb trade begun last scan fetched lorry height
    final List<List<int[]>> weighings = new ArrayList<>(); // of each let: tip weight told
    final List<int[]> drawings = new ArrayList<>(); // of each let: null, or N and the six sorts
    final List<int[]> tasks = new ArrayList<>();    // kerb size sort
    final String[] texts = {"", "", "", "", ""};
    final Object[] sheets = new Object[4];          // null, or byte[], short[], int[]

    private static boolean in(int v, int a, int b) {
        return a <= v && v <= b;
    }

    private boolean noLet(int let) {
        return !in(let, 0, lets.size() - 1);
    }

    private boolean stands(int let) {
        return lets.get(let)[6] == -1;
    }

    int pass(int n) {
        if (!in(n, 1, 100) || day + n > 399) return -2;
        return day += n;
    }

    int holiday(int d, boolean is) {
        if (!in(d, 0, 399)) return -2;
        return (is ? holidays.add(d) : holidays.remove(d)) ? 1 : 0;
    }

    int kerb(int b, int x, int y, int feet) {
        if (!in(b, 0, 3) || !in(x, 0, 99) || !in(y, 0, 99) || !in(feet, 4, 60)) return -2;
        if (kerbs.size() == 24) return -4;
        kerbs.add(new int[] {b, x, y, feet, 0});
        return kerbs.size() - 1;
    }

    int refuse(int k, boolean is) {
        if (!in(k, 0, kerbs.size() - 1)) return -2;
        int was = kerbs.get(k)[4];
        kerbs.get(k)[4] = is ? 1 : 0;
        return was == kerbs.get(k)[4] ? 0 : 1;
    }

    private int feet(int k) {
        int sum = 0;
        for (int[] l : lets) {
            if (l[1] == k && l[6] == -1) sum += 4 + skips.get(l[0]);
        }
        return kerbs.get(k)[3] - sum;
    }

    private boolean permitted(int k) {
        return permits.stream().anyMatch(p -> p[0] == k && p[1] <= day && day <= p[2]);
    }

    int about(int k, int what) {
        if (!in(k, 0, kerbs.size() - 1) || !in(what, 0, 6)) return -2;
        if (what == 5) return feet(k);
        return what == 6 ? permitted(k) ? 1 : 0 : kerbs.get(k)[what];
    }

    int skip(int size) {
        if (!in(size, 1, 12)) return -2;
        if (skips.size() == 40) return -4;
        skips.add(size);
        return skips.size() - 1;
    }

    private int letOf(int skip) {
        for (int i = 0; i < lets.size(); i++) {
            if (lets.get(i)[0] == skip && stands(i)) return i;
        }
        return -1;
    }

    int where(int s, int what) {
        if (!in(s, 0, skips.size() - 1) || !in(what, 0, 2)) return -2;
        if (what == 0) return skips.get(s);
        int let = letOf(s);
        return what == 2 || let < 0 ? let : lets.get(let)[1];
    }

    int tip(int x, int y, int sorts, int from, int to, int fee) {
        if (!in(x, 0, 99) || !in(y, 0, 99) || !in(sorts, 1, 63) || !in(from, 0, 23) || !in(to, 0, 23) || from > to
                || !in(fee, 0, 500)) return -2;
        if (tips.size() == 6) return -4;
        tips.add(new int[] {x, y, sorts, from, to, fee, 0});
        return tips.size() - 1;
    }

    int drift(int t, int d) {
        if (!in(t, 0, tips.size() - 1) || !in(d, -50, 50)) return -1000;
        int was = tips.get(t)[6];
        tips.get(t)[6] = d;
        return was;
    }

    int permit(int k, int from, int to) {
        if (!in(k, 0, kerbs.size() - 1) || !in(from, 0, 399) || !in(to, 0, 399) || from > to) return -2;
        if (to - from >= law(kerbs.get(k)[0], 0)) return -3;
        if (permits.size() == 60) return -4;
        permits.add(new int[] {k, from, to});
        return permits.size() - 1;
    }

    int type(int t, int b) {
        if (!in(t, 0, 4) || !in(b, 0, 255)) return -2;
        if (texts[t].length() == 60) return -4;
        texts[t] += (char) b;
        return texts[t].length();
    }

    int wipe(int t) {
        if (!in(t, 0, 4)) return -2;
        int had = texts[t].length();
        texts[t] = "";
        return had;
    }

    int fault(int t) {
        if (!in(t, 0, 4)) return -2;
        return t == 4 ? faultOfTax(texts[4]) : faultOfLaw(texts[t]);
    }

    /** How far the pattern of the part can be begun, as a list of alternatives that are tried from long to short. */
    private static int faultOfLaw(String text) {
        if (text.isEmpty()) return -1;
        String seen = "";
        int at = 0;
        for (String part : text.split(";", -1)) {
            String letter = part.isEmpty() ? "" : part.substring(0, 1);
            if (letter.isEmpty() || !"dlceho".contains(letter) || seen.contains(letter)) return at;
            seen += letter;
            if ("eh".contains(letter)) {
                if (part.length() > 1) return at + 1;
            } else {
                Matcher m = Pattern.compile(letter.equals("o") ? "[0-9]{1,3}" : "[0-9]{1,2}").matcher(part);
                m.region(1, part.length());
                if (!m.lookingAt()) return at + 1;
                int n = Integer.parseInt(m.group());
                if (letter.equals("d") && n == 0 || letter.equals("l") && n > 9) return at + 1;
                if (m.end() < part.length()) return at + m.end();
            }
            at += part.length() + 1;
        }
        return -1;
    }

    private static int faultOfTax(String text) {
        if (text.isEmpty()) return -1;
        int at = 0;
        for (String part : text.split(";", -1)) {
            Matcher whole = Pattern.compile("s[0-5](@([0-9]{1,3}))?=[0-9]{1,3}").matcher(part);
            Matcher day = Pattern.compile("s[0-5]@([0-9]{1,3})").matcher(part);
            if (day.lookingAt() && Integer.parseInt(day.group(1)) > 399) return at + 3;
            if (!whole.matches()) {
                int end = part.length();
                while (!Pattern.matches("|s|s[0-5]|s[0-5]@|s[0-5](@[0-9]{1,3})?|s[0-5](@[0-9]{1,3})?=[0-9]{0,3}",
                        part.substring(0, end))) end--;
                return at + end;
            }
            at += part.length() + 1;
        }
        return -1;
    }

    int law(int b, int what) {
        if (!in(b, 0, 3) || !in(what, 0, 5)) return -2;
        int[] defaults = {14, 2, 5, 0, 0, 40};
        if (texts[b].isEmpty() || fault(b) != -1) return defaults[what];
        for (String part : texts[b].split(";")) {
            if (part.charAt(0) == "dlceho".charAt(what)) {
                return part.length() == 1 ? 1 : Integer.parseInt(part.substring(1));
            }
        }
        return defaults[what];
    }

    int tax(int sort, int d) {
        if (!in(sort, 0, 5) || !in(d, 0, 399)) return -2;
        int coins = 0;
        if (texts[4].isEmpty() || fault(4) != -1) return 0;
        for (String part : texts[4].split(";")) {
            String[] sides = part.split("=");
            String[] head = sides[0].substring(1).split("@");
            boolean inForce = head.length == 1 || Integer.parseInt(head[1]) <= d;
            if (Integer.parseInt(head[0]) == sort && inForce) coins = Integer.parseInt(sides[1]);
        }
        return coins;
    }

    private boolean lawful(int k) {
        int b = kerbs.get(k)[0];
        if (law(b, 3) == 1 && (day % 7 == 5 || day % 7 == 6)) return false;
        return !(law(b, 4) == 1 && holidays.contains(day));
    }

    int let(int s, int k, int trade, int last) {
        if (!in(s, 0, skips.size() - 1) || !in(k, 0, kerbs.size() - 1) || !in(trade, 0, 5) || !in(last, 0, 399)
                || last < day || letOf(s) != -1) return -2;
        if (kerbs.get(k)[4] == 1 || !permitted(k) || 4 + skips.get(s) > feet(k) || !lawful(k)) return -3;
        if (lets.size() == 60) return -4;
        lets.add(new int[] {s, k, trade, day, last, day, -1, -1, -1});
        weighings.add(new ArrayList<>());
        drawings.add(null);
        return lets.size() - 1;
    }

    int scan(int l) {
        if (noLet(l)) return -2;
        if (!stands(l)) return -3;
        lets.get(l)[5] = day;
        return 1;
    }

    int letIs(int l, int what) {
        return noLet(l) || !in(what, 0, 8) ? -2 : lets.get(l)[what];
    }

    int fetch(int l, int lorry, int height) {
        if (noLet(l) || !in(lorry, 0, 5) || !in(height, 0, 200)) return -2;
        if (!stands(l) || !lawful(lets.get(l)[1])) return -3;
        lets.get(l)[6] = day;
        lets.get(l)[7] = lorry;
        lets.get(l)[8] = height;
        return 1;
    }

    int swap(int l, int lorry, int height, int s, int last) {
        if (noLet(l) || !in(lorry, 0, 5) || !in(height, 0, 200) || !in(s, 0, skips.size() - 1) || !in(last, 0, 399)
                || last < day) return -2;
        int k = lets.get(l)[1];
        if (!stands(l) || !lawful(k) || letOf(s) != -1 || !skips.get(s).equals(skips.get(lets.get(l)[0]))
                || kerbs.get(k)[4] == 1 || !permitted(k)) return -3;
        if (lets.size() == 60) return -4;
        fetch(l, lorry, height);
        return let(s, k, lets.get(l)[2], last);
    }

    int lapsed() {
        return (int) lets.stream().filter(l -> l[6] == -1 && !permitted(l[1])).count();
    }

    private List<Integer> forgottenOnes(int days) {
        List<Integer> all = new ArrayList<>();
        for (int i = 0; i < lets.size(); i++) {
            int[] l = lets.get(i);
            if (l[6] == -1 && day > l[4] && day - l[5] > days) all.add(i);
        }
        return all;
    }

    int forgotten(int days) {
        return in(days, 0, 399) ? forgottenOnes(days).size() : -2;
    }

    int forgets(int days, int i) {
        if (!in(days, 0, 399) || i < 0) return -2;
        List<Integer> all = forgottenOnes(days);
        return i < all.size() ? all.get(i) : -1;
    }

    private int nights(int l) {
        int to = stands(l) ? day : lets.get(l)[6];
        int n = 0;
        for (int d = lets.get(l)[3]; d <= to - 1; d++) n++;
        return n;
    }

    private int lawOfLet(int l, int what) {
        return law(kerbs.get(lets.get(l)[1])[0], what);
    }

    int lamps(int l) {
        return noLet(l) ? -2 : nights(l) * lawOfLet(l, 1);
    }

    int weigh(int l, int t, int weight, int told) {
        if (noLet(l) || !in(t, 0, tips.size() - 1) || !in(weight, 1, 3000) || !in(told, 0, 399)) return -2;
        List<int[]> all = weighings.get(l);
        if (stands(l) || told < lets.get(l)[6] || told > day) return -3;
        if (!all.isEmpty() && told <= all.get(all.size() - 1)[2]) return -3;
        if (all.size() == 4) return -4;
        int shown = weight - tips.get(t)[6];
        all.add(new int[] {t, shown < 1 ? 1 : shown, told});
        return 1;
    }

    int asOf(int d) {
        if (!in(d, -1, 399)) return -2;
        int was = as;
        as = d;
        return was;
    }

    private int[] known(int l) {
        int[] latest = null;
        for (int[] w : weighings.get(l)) {
            if (as == -1 || w[2] <= as) latest = w;
        }
        return latest;
    }

    int weighs(int l, int what) {
        if (noLet(l) || !in(what, 0, 2)) return -2;
        int[] w = known(l);
        return stands(l) || w == null ? -3 : what == 0 ? w[1] : what == 1 ? w[0] : w[2];
    }

    private int size(int l) {
        return skips.get(lets.get(l)[0]);
    }

    int over(int l, int what) {
        if (noLet(l) || !in(what, 0, 1)) return -2;
        if (stands(l)) return -3;
        if (what == 1) return lets.get(l)[8] > 100 ? lets.get(l)[8] - 100 : 0;
        return known(l) == null || known(l)[1] < 120 * size(l) ? 0 : known(l)[1] - 120 * size(l);
    }

    private long[] told(int trade, int size, int height, int without) {
        List<Long> all = new ArrayList<>();
        for (int i = 0; i < lets.size(); i++) {
            int own = lets.get(i)[8];
            if (i != without && own > 0 && lets.get(i)[2] == trade && size(i) == size && known(i) != null) {
                all.add((long) known(i)[1] * height / own);
            }
        }
        if (all.isEmpty()) {
            return new long[] {60L * size * height / 100, 90L * size * height / 100, 120L * size * height / 100, 0};
        }
        all.sort(null);
        long sum = all.stream().mapToLong(v -> v).sum();
        return new long[] {all.get(0), sum / all.size(), all.get(all.size() - 1), all.size()};
    }

    int foretell(int trade, int size, int height, int what) {
        if (!in(trade, 0, 5) || !in(size, 1, 12) || !in(height, 1, 200) || !in(what, 0, 3)) return -2;
        return (int) told(trade, size, height, -1)[what];
    }

    private long mean(int l) {
        return told(lets.get(l)[2], size(l), lets.get(l)[8], l)[1];
    }

    int lost(int lorry, int week, int what) {
        if (!in(lorry, 0, 5) || !in(week, 0, 57) || !in(what, 0, 2)) return MIN;
        long[] is = {0, 0, 0};
        for (int i = 0; i < lets.size(); i++) {
            int[] l = lets.get(i);
            if (l[6] < 7 * week || l[6] > 7 * week + 6 || l[7] != lorry) continue;
            if (known(i) == null && day < l[6] + 14) continue;
            is[0] += mean(i) - (known(i) == null ? 0 : known(i)[1]);
            is[1] += mean(i);
            is[2]++;
        }
        return (int) is[what];
    }

    int thieving(int lorry, int week, int n) {
        if (!in(lorry, 0, 5) || !in(week, 0, 57) || !in(n, 2, 20) || week + n > 58) return -2;
        boolean all = true;
        for (int w = week; w < week + n; w++) {
            all &= lost(lorry, w, 2) > 0 && 100L * lost(lorry, w, 0) > 10L * lost(lorry, w, 1);
        }
        return all ? 1 : 0;
    }

    private int finds(int number) {
        finding = number;
        return -10 - number;
    }

    private int items(int s) {
        return java.lang.reflect.Array.getLength(sheets[s]);
    }

    private int item(int s, int i) {
        return sheets[s] instanceof byte[] b ? b[i] : sheets[s] instanceof short[] h ? h[i] : ((int[]) sheets[s])[i];
    }

    private void setItem(int s, int i, int v) {
        if (sheets[s] instanceof byte[] b) b[i] = (byte) v;
        else if (sheets[s] instanceof short[] h) h[i] = (short) v;
        else ((int[]) sheets[s])[i] = v;
    }

    private int form(int s) {
        return sheets[s] instanceof byte[] ? 0 : sheets[s] instanceof short[] ? 1 : 2;
    }

    int draw(int l, int pieces, int s) {
        if (noLet(l) || !in(pieces, 1, 60) || !in(s, 0, 3)) return -2;
        if (sheets[s] == null) return finds(1);
        if (items(s) < 6) return finds(2);
        if (stands(l) || drawings.get(l) != null) return -3;
        long sum = 0;
        int[] drawn = new int[7];
        drawn[0] = pieces;
        for (int i = 0; i < 6; i++) {
            if (item(s, i) < 0) return -3;
            sum += item(s, i);
            drawn[i + 1] = item(s, i);
        }
        if (sum == 0 || sum > pieces) return -3;
        drawings.set(l, drawn);
        return (int) sum;
    }

    private static BigInteger choose(int n, int k) {
        BigInteger ways = BigInteger.ONE;
        for (int i = 0; i < k; i++) {
            ways = ways.multiply(BigInteger.valueOf(n - i)).divide(BigInteger.valueOf(i + 1));
        }
        return ways;
    }

    private static boolean likely(int pieces, int n, int k, int all) {
        BigInteger[] sides = {BigInteger.ZERO, BigInteger.ZERO};
        for (int j = 0; j <= Math.min(n, all); j++) {
            if (n - j > pieces - all) continue;
            BigInteger ways = choose(all, j).multiply(choose(pieces - all, n - j));
            if (j <= k) sides[0] = sides[0].add(ways);
            if (j >= k) sides[1] = sides[1].add(ways);
        }
        BigInteger any = choose(pieces, n);
        return Arrays.stream(sides).allMatch(s -> s.multiply(BigInteger.valueOf(40)).compareTo(any) >= 0);
    }

    int sorts(int l, int sort, int what) {
        if (noLet(l) || !in(sort, 0, 5) || !in(what, 0, 2)) return -2;
        int[] d = drawings.get(l);
        if (d == null) return -3;
        int n = Arrays.stream(d).sum() - d[0];
        if (what == 0) return d[sort + 1];
        int found = -99;
        for (int all = 0; all <= d[0]; all++) {
            if (likely(d[0], n, d[sort + 1], all) && (what == 2 || found == -99)) found = all;
        }
        return found;
    }

    private int taxOf(int l, int weight) {
        int d = lets.get(l)[6];
        int[] drawn = drawings.get(l);
        if (drawn == null) return weight * tax(0, d) / 100;
        int n = Arrays.stream(drawn).sum() - drawn[0];
        int sum = 0;
        for (int sort = 0; sort < 6; sort++) {
            sum += (int) ((long) weight * drawn[sort + 1] * tax(sort, d) / (100L * n));
        }
        return sum;
    }

    int taxed(int l) {
        if (noLet(l)) return -2;
        return stands(l) || known(l) == null ? -3 : taxOf(l, known(l)[1]);
    }

    private static int far(int x, int y, int x2, int y2) {
        return Math.max(x - x2, x2 - x) + Math.max(y - y2, y2 - y);
    }

    private boolean accepts(int t, int sort, int hour) {
        int[] tip = tips.get(t);
        return (tip[2] & 1 << sort) != 0 && in(hour, tip[3], tip[4]);
    }

    int find(int l, int sort, int hour) {
        if (noLet(l) || !in(sort, 0, 5) || !in(hour, 0, 23)) return -2;
        int[] k = kerbs.get(lets.get(l)[1]);
        for (int miles = 0; miles < 400; miles++) {
            for (int t = 0; t < tips.size(); t++) {
                if (accepts(t, sort, hour) && far(k[1], k[2], tips.get(t)[0], tips.get(t)[1]) == miles) return t;
            }
        }
        return -1;
    }

    int bill(int l, int what) {
        if (noLet(l) || !in(what, 0, 6)) return -2;
        if (stands(l)) return -3;
        return bills(l)[what];
    }

    private int[] bills(int l) {
        int stood = nights(l) + 1;
        int[] b = {0, lawOfLet(l, 2) * stood, 3 * lamps(l), size(l) * 10 + size(l) * stood, 0, 0, 0};
        b[4] = over(l, 0) * lawOfLet(l, 5) / 100 + (over(l, 1) > 0 ? 20 : 0);
        if (known(l) != null) {
            b[5] = taxed(l);
            b[6] = tips.get(known(l)[0])[5] * known(l)[1] / 100;
        }
        b[0] = b[1] + b[2] + b[3] + b[4] + b[5] + b[6];
        return b;
    }

    int guess(int l) {
        if (noLet(l)) return -2;
        if (stands(l)) return -3;
        int[] b = bills(l);
        long weight = mean(l);
        long above = Math.max(0, weight - 120 * size(l));
        long sum = b[1] + b[2] + b[3] + above * lawOfLet(l, 5) / 100 + (over(l, 1) > 0 ? 20 : 0);
        sum += weight * tax(0, lets.get(l)[6]) / 100;
        return (int) (tips.isEmpty() ? sum : sum + tips.get(0)[5] * weight / 100);
    }

    int task(int k, int size, int sort) {
        if (!in(k, 0, kerbs.size() - 1) || !in(size, 1, 12) || !in(sort, 0, 5)) return -2;
        if (tasks.size() == 6) return -4;
        tasks.add(new int[] {k, size, sort});
        return tasks.size();
    }

    int clear() {
        int had = tasks.size();
        tasks.clear();
        return had;
    }

    int reach(int m) {
        if (!in(m, 1, 2000)) return -2;
        int was = miles;
        miles = m;
        return was;
    }

    /** MILES of a row of TASKS, as the lorry goes; -1: a TASK has no TIP. */
    private int milesOf(List<Integer> row) {
        int sum = 0;
        for (int i = 0; i < row.size(); i++) {
            int[] task = tasks.get(row.get(i));
            int[] k = kerbs.get(task[0]);
            int[] next = i + 1 < row.size() ? tasks.get(row.get(i + 1)) : null;
            boolean straight = next != null && next[1] == task[1];
            int[] to = straight ? kerbs.get(next[0]) : new int[] {0, 50, 50};
            if (i == 0) sum += far(50, 50, k[1], k[2]);
            int best = -1;
            for (int t = 0; t < tips.size(); t++) {
                int[] tip = tips.get(t);
                int way = far(k[1], k[2], tip[0], tip[1]) + far(tip[0], tip[1], to[1], to[2]);
                if (accepts(t, task[2], 12) && (best < 0 || way < best)) best = way;
            }
            if (best < 0) return -1;
            sum += best;
            if (next != null && !straight) sum += far(50, 50, kerbs.get(next[0])[1], kerbs.get(next[0])[2]);
        }
        return sum;
    }

    private void rows(List<Integer> left, List<Integer> row, List<List<Integer>> all) {
        if (left.isEmpty()) all.add(new ArrayList<>(row));
        for (Integer t : left) {
            List<Integer> rest = new ArrayList<>(left);
            rest.remove(t);
            row.add(t);
            rows(rest, row, all);
            row.remove(row.size() - 1);
        }
    }

    private List<Integer> bestRow(int set) {
        List<Integer> of = new ArrayList<>();
        for (int t = 0; t < tasks.size(); t++) {
            if ((set & 1 << t) != 0) of.add(t);
        }
        List<List<Integer>> all = new ArrayList<>();
        rows(of, new ArrayList<>(), all);
        List<Integer> best = null;
        for (List<Integer> row : all) {
            int m = milesOf(row);
            if (m >= 0 && m <= miles && (best == null || m < milesOf(best))) best = row;
        }
        return best;
    }

    /** The row of each LORRY; null: there is no plan. */
    List<List<Integer>> thePlan(int n) {
        List<List<Integer>> bestOf = new ArrayList<>();
        int[] cost = new int[1 << tasks.size()];
        for (int set = 0; set < 1 << tasks.size(); set++) {
            bestOf.add(bestRow(set));
            cost[set] = bestOf.get(set) == null ? -1 : milesOf(bestOf.get(set));
        }
        int[] lorries = new int[tasks.size()];
        int[] best = null;
        int least = 0;
        do {
            int[] sets = new int[n];
            for (int t = 0; t < lorries.length; t++) sets[lorries[t]] |= 1 << t;
            int sum = 0;
            for (int set : sets) sum = sum < 0 || cost[set] < 0 ? -1 : sum + cost[set];
            if (sum >= 0 && (best == null || sum < least)) {
                best = sets;
                least = sum;
            }
        } while (step(lorries, n));
        if (best == null) return null;
        List<List<Integer>> plan = new ArrayList<>();
        for (int set : best) plan.add(bestOf.get(set));
        return plan;
    }

    private static boolean step(int[] lorries, int n) {
        for (int t = lorries.length - 1; t >= 0; t--) {
            if (++lorries[t] < n) return true;
            lorries[t] = 0;
        }
        return false;
    }

    int plan(int n) {
        if (!in(n, 1, 3)) return -2;
        List<List<Integer>> plan = thePlan(n);
        return plan == null ? -3 : plan.stream().mapToInt(this::milesOf).sum();
    }

    int tour(int n, int lorry, int i) {
        if (!in(n, 1, 3) || !in(lorry, 0, n - 1) || i < 0) return -2;
        List<List<Integer>> plan = thePlan(n);
        if (plan == null) return -3;
        return i < plan.get(lorry).size() ? plan.get(lorry).get(i) : -1;
    }

    int miles(int n, int lorry) {
        if (!in(n, 1, 3) || !in(lorry, 0, n - 1)) return -2;
        List<List<Integer>> plan = thePlan(n);
        return plan == null ? -3 : milesOf(plan.get(lorry));
    }

    int bound() {
        int sum = 0;
        Set<Integer> may = new HashSet<>();
        List<Integer> kerbMiles = new ArrayList<>();
        for (int[] task : tasks) {
            int[] k = kerbs.get(task[0]);
            List<Integer> ways = new ArrayList<>();
            for (int t = 0; t < tips.size(); t++) {
                if (!accepts(t, task[2], 12)) continue;
                ways.add(far(k[1], k[2], tips.get(t)[0], tips.get(t)[1]));
                may.add(far(50, 50, tips.get(t)[0], tips.get(t)[1]));
            }
            if (ways.isEmpty()) return -3;
            sum += ways.stream().min(Integer::compare).get();
            kerbMiles.add(far(50, 50, k[1], k[2]));
        }
        if (tasks.isEmpty()) return 0;
        return sum + kerbMiles.stream().min(Integer::compare).get() + may.stream().min(Integer::compare).get();
    }

    int sheet(int s, int form, int n) {
        if (!in(s, 0, 3) || !in(form, 0, 2) || n > 90) return -2;
        if (n < 0) return finds(5);
        sheets[s] = form == 0 ? new byte[n] : form == 1 ? new short[n] : new int[n];
        return n;
    }

    int lose(int s) {
        if (!in(s, 0, 3)) return -2;
        if (sheets[s] == null) return finds(1);
        int had = items(s);
        sheets[s] = null;
        return had;
    }

    int put(int s, int form, int i, int v) {
        if (!in(s, 0, 3) || !in(form, 0, 2)) return -2;
        if (sheets[s] == null) return finds(1);
        if (form(s) != form) return finds(3);
        if (!in(i, 0, items(s) - 1)) return finds(2);
        setItem(s, i, v);
        return 1;
    }

    int get(int s, int form, int i) {
        if (!in(s, 0, 3) || !in(form, 0, 2)) return MIN;
        finding = sheets[s] == null ? 1 : form(s) != form ? 3 : !in(i, 0, items(s) - 1) ? 2 : -finding - 1;
        if (finding > 0) return MIN;
        finding = -(finding + 1);
        return item(s, i);
    }

    int copy(int s, int i, int t, int j, int n) {
        if (!in(s, 0, 3) || !in(t, 0, 3)) return -2;
        if (sheets[s] == null || sheets[t] == null) return finds(1);
        if (form(s) != form(t)) return finds(4);
        if (i < 0 || j < 0 || n < 0 || (long) i + n > items(s) || (long) j + n > items(t)) return finds(2);
        int[] as = new int[n];
        for (int k = 0; k < n; k++) as[k] = item(s, i + k);
        for (int k = 0; k < n; k++) setItem(t, j + k, as[k]);
        return 1;
    }

    int write(int l, int s) {
        if (noLet(l) || !in(s, 0, 3)) return -2;
        if (sheets[s] == null) return finds(1);
        if (stands(l)) return -3;
        int n = 0;
        while (n < 7 && n < items(s)) {
            setItem(s, n, bill(l, n));
            n++;
        }
        return n;
    }

    int count(int what) {
        switch (what) {
            case 0: return day;
            case 1: return kerbs.size();
            case 2: return skips.size();
            case 3: return skips.size() - (int) lets.stream().filter(l -> l[6] == -1).count();
            case 4: return tips.size();
            case 5: return permits.size();
            case 6: return lets.size();
            case 7:
                int n = 0;
                for (int i = 0; i < lets.size(); i++) n += known(i) == null ? 0 : 1;
                return n;
            case 8: return finding;
            case 9: return tasks.size();
            case 10: return String.join("", texts).length();
            case 11: return holidays.size();
            default: return -2;
        }
    }

    long digest() {
        List<Long> all = new ArrayList<>();
        for (int what = 0; what < 12; what++) if (what != 8) all.add((long) count(what));
        for (int k = 0; k < kerbs.size(); k++) for (int what = 4; what < 7; what++) all.add((long) about(k, what));
        for (int s = 0; s < skips.size(); s++) all.add((long) where(s, 1));
        for (int l = 0; l < lets.size(); l++) {
            for (int v : new int[] {letIs(l, 5), letIs(l, 6), lamps(l), weighs(l, 0), bill(l, 0)}) all.add((long) v);
        }
        for (int t = 0; t < 5; t++) all.add((long) fault(t));
        all.add((long) lapsed());
        all.add((long) plan(2));
        long h = 17;
        for (long v : all) h = 31 * h + v;
        return h;
    }
}
