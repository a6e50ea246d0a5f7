import java.math.BigInteger;
import java.util.ArrayList;
import java.util.Arrays;
import java.util.HashMap;
import java.util.List;
import java.util.Map;
import java.util.TreeMap;

/**
 * The document's terms once more, as slowly and plainly as they can be said, for
 * comparing answers. Nothing here is shared with the class under test.
 */
final class Model {
    /** What is told, and what was done. */
    static final class State {
        int days;
        int[] begin = new int[2];
        int cools;
        int odds;
        List<int[]> deeds = new ArrayList<>();
        List<int[]> carts = new ArrayList<>();
        List<int[]> acts = new ArrayList<>();

        State copy() {
            State c = new State();
            c.days = days;
            c.begin = begin.clone();
            c.cools = cools;
            c.odds = odds;
            for (int[] d : deeds) c.deeds.add(d.clone());
            for (int[] d : carts) c.carts.add(d.clone());
            for (int[] d : acts) c.acts.add(d.clone());
            return c;
        }

        String text() {
            StringBuilder s = new StringBuilder("bridge days " + days + " feels " + begin[0] + " feels " + begin[1]
                    + " cools " + cools + " odds " + odds + ";");
            for (int[] d : deeds) {
                s.append("deed by " + d[0] + " costs " + d[1] + gift(d[2]) + gift(d[3]) + ";");
            }
            for (int[] c : carts) {
                s.append("cart on " + c[0] + " wide " + c[1] + " from " + c[2] + " due " + c[3] + " pays " + c[4] + ";");
            }
            return s.toString();
        }

        private static String gift(int n) {
            return n < 0 ? " takes " + -n : " gives " + n;
        }
    }

    /** What comes of days. */
    static final class Way {
        int[][] feel;
        int[] width;
        int[] room;
        int[] passDay;
    }

    /** A PLAN with what comes of it. */
    static final class Plan {
        int[] row;
        int cost;
        Way way;
        int kept;
    }

    State s;
    State[] images = new State[3];
    boolean[] imaged = new boolean[3];
    long[][] slots = new long[4][];
    int[] slotWidth = new int[4];
    private final Map<String, List<Plan>> plans = new HashMap<>();

    int[] doneRow() {
        int[] row = new int[s.days];
        Arrays.fill(row, -1);
        for (int[] act : s.acts) row[act[0]] = act[1];
        return row;
    }

    List<List<Integer>> asLists(int[] row) {
        List<List<Integer>> all = new ArrayList<>();
        for (int deed : row) all.add(deed < 0 ? List.of() : List.of(deed));
        return all;
    }

    Way go(List<List<Integer>> deeds, int cools, int tempers, List<Integer> order) {
        Way w = new Way();
        w.feel = new int[2][s.days];
        w.width = new int[s.days];
        w.room = new int[s.days];
        w.passDay = new int[s.carts.size()];
        Arrays.fill(w.passDay, -1);
        int a = s.begin[0];
        int b = s.begin[1];
        for (int day = 0; day < s.days; day++) {
            for (int deed : deeds.get(day)) {
                a = Math.min(60, Math.max(0, a + s.deeds.get(deed)[2]));
                b = Math.min(60, Math.max(0, b + s.deeds.get(deed)[3]));
            }
            if ((tempers & 1 << day) != 0) {
                a = Math.max(0, a - 5);
                b = Math.max(0, b - 5);
            }
            w.feel[0][day] = a;
            w.feel[1][day] = b;
            w.width[day] = Math.min(a, b);
            int room = w.width[day];
            for (int cart : order) {
                if (w.passDay[cart] < 0 && s.carts.get(cart)[2] <= day && s.carts.get(cart)[1] <= room) {
                    room -= s.carts.get(cart)[1];
                    w.passDay[cart] = day;
                }
            }
            w.room[day] = room;
            a = Math.max(0, a - cools);
            b = Math.max(0, b - cools);
        }
        return w;
    }

    List<Integer> numbers() {
        List<Integer> order = new ArrayList<>();
        for (int i = 0; i < s.carts.size(); i++) order.add(i);
        return order;
    }

    Way now() {
        return go(asLists(doneRow()), s.cools, 0, numbers());
    }

    int keptOf(Way w) {
        int bits = 0;
        for (int c = 0; c < s.carts.size(); c++) {
            if (w.passDay[c] >= 0 && w.passDay[c] <= s.carts.get(c)[3]) bits |= 1 << c;
        }
        return bits;
    }

    int passedOf(Way w) {
        int bits = 0;
        for (int c = 0; c < s.carts.size(); c++) if (w.passDay[c] >= 0) bits |= 1 << c;
        return bits;
    }

    int payOf(int bits) {
        int sum = 0;
        for (int c = 0; c < s.carts.size(); c++) if ((bits & 1 << c) != 0) sum += s.carts.get(c)[4];
        return sum;
    }

    int costOf(int[] row) {
        int sum = 0;
        for (int deed : row) if (deed >= 0) sum += s.deeds.get(deed)[1];
        return sum;
    }

    /** All PLANS, the least row first. */
    List<Plan> plans() {
        State bare = s.copy();
        for (int[] c : bare.carts) c[4] = 0;
        return plans.computeIfAbsent(bare.text(), key -> {
            List<Plan> all = new ArrayList<>();
            int[] row = new int[s.days];
            addPlans(all, row, 0);
            return all;
        });
    }

    private void addPlans(List<Plan> all, int[] row, int day) {
        if (day == s.days) {
            Plan p = new Plan();
            p.row = row.clone();
            p.cost = costOf(row);
            p.way = go(asLists(row), s.cools, 0, numbers());
            p.kept = keptOf(p.way);
            all.add(p);
            return;
        }
        for (int deed = -1; deed < s.deeds.size(); deed++) {
            row[day] = deed;
            addPlans(all, row, day + 1);
        }
    }

    int gain(Plan p) {
        return payOf(p.kept) - p.cost;
    }

    int bestGain() {
        int best = Integer.MIN_VALUE;
        for (Plan p : plans()) best = Math.max(best, gain(p));
        return best;
    }

    boolean isDay(int d) { return s != null && d >= 0 && d < s.days; }
    boolean isDeed(int d) { return s != null && d >= 0 && d < s.deeds.size(); }
    boolean isCart(int c) { return s != null && c >= 0 && c < s.carts.size(); }
    boolean isSlot(int k) { return k >= 0 && k <= 3; }
    int all() { return (1 << s.carts.size()) - 1; }

    int deed(int d, int what) { return isDeed(d) && what >= 0 && what <= 3 ? s.deeds.get(d)[what] : -1000; }
    int cart(int c, int what) { return isCart(c) && what >= 0 && what <= 4 ? s.carts.get(c)[what] : -2; }
    int feels(int side, int d) { return isDay(d) && (side == 0 || side == 1) ? now().feel[side][d] : -1000; }
    int width(int d) { return isDay(d) ? now().width[d] : -2; }

    int narrow() {
        if (s == null) return -2;
        int[] w = now().width;
        int least = Arrays.stream(w).min().getAsInt();
        for (int d = 0; ; d++) if (w[d] == least) return d;
    }

    int peak() {
        if (s == null) return -2;
        int[] w = now().width;
        int most = Arrays.stream(w).max().getAsInt();
        for (int d = 0; ; d++) if (w[d] == most) return d;
    }

    int shut() {
        if (s == null) return -2;
        int bits = 0;
        for (int d = 0; d < s.days; d++) if (now().width[d] == 0) bits += 1 << d;
        return bits;
    }

    int passes(int c) { return isCart(c) ? now().passDay[c] : -2; }

    int overOf(Way w, int d) {
        int bits = 0;
        for (int c = 0; c < w.passDay.length; c++) if (w.passDay[c] == d) bits += 1 << c;
        return bits;
    }

    int over(int d) { return isDay(d) ? overOf(now(), d) : -2; }

    int waits(int d) {
        if (!isDay(d)) return -2;
        int bits = 0;
        Way w = now();
        for (int c = 0; c < w.passDay.length; c++) {
            boolean came = s.carts.get(c)[2] <= d;
            boolean passed = w.passDay[c] >= 0 && w.passDay[c] <= d;
            if (came && !passed) bits += 1 << c;
        }
        return bits;
    }

    int room(int d) { return isDay(d) ? now().room[d] : -2; }

    int stuck() {
        if (s == null) return -2;
        int found = -1;
        for (int c = 0; c < s.carts.size(); c++) {
            int from = s.carts.get(c)[2];
            if (from >= s.days || now().passDay[c] == from) continue;
            if (found < 0 || from < s.carts.get(found)[2]) found = c;
        }
        return found;
    }

    int lost() { return s == null ? -2 : all() - passedOf(now()); }
    int kept() { return s == null ? -2 : keptOf(now()); }
    int pays() { return s == null ? -2 : payOf(kept()); }
    int costs() { return s == null ? -2 : costOf(doneRow()); }
    int best() { return s == null ? -1000000 : bestGain(); }

    int plan(int d) {
        if (!isDay(d)) return -2;
        int best = bestGain();
        for (Plan p : plans()) if (gain(p) == best) return p.row[d];
        throw new IllegalStateException();
    }

    int ways() {
        if (s == null) return -2;
        int best = bestGain();
        int n = 0;
        for (Plan p : plans()) if (gain(p) == best) n++;
        return n;
    }

    int lacks(int c) {
        if (!isCart(c)) return -2;
        int most = 0;
        for (int d = s.carts.get(c)[2]; d <= s.carts.get(c)[3] && d < s.days; d++) most = Math.max(most, now().width[d]);
        return Math.max(0, s.carts.get(c)[1] - most);
    }

    int crowd() {
        if (s == null) return -2;
        int found = -1;
        int most = 0;
        for (int d = 0; d < s.days; d++) {
            int n = Integer.bitCount(over(d));
            if (n > most) {
                most = n;
                found = d;
            }
        }
        return found;
    }

    int late() { return s == null ? -2 : passedOf(now()) - keptOf(now()); }

    int delay() {
        if (s == null) return -2;
        int sum = 0;
        Way w = now();
        for (int c = 0; c < w.passDay.length; c++) if (w.passDay[c] >= 0) sum += w.passDay[c] - s.carts.get(c)[2];
        return sum;
    }

    int toll(int d) { return isDay(d) ? payOf(over(d)) : -2; }
    int gap(int d) { return isDay(d) ? Math.abs(now().feel[0][d] - now().feel[1][d]) : -2; }

    int kind(int d) {
        if (!isDay(d)) return -2;
        int most = now().width[d];
        int found = -1;
        for (int deed = 0; deed < s.deeds.size(); deed++) {
            int[] row = doneRow();
            row[d] = deed;
            int width = go(asLists(row), s.cools, 0, numbers()).width[d];
            if (width > most) {
                most = width;
                found = deed;
            }
        }
        return found;
    }

    int alone(int deed) {
        if (!isDeed(deed)) return -1000000;
        int best = Integer.MIN_VALUE;
        for (Plan p : plans()) {
            boolean other = false;
            for (int one : p.row) other |= one >= 0 && one != deed;
            if (!other) best = Math.max(best, gain(p));
        }
        return best;
    }

    int value(int c) {
        if (!isCart(c)) return -2;
        int with = bestGain();
        int paid = s.carts.get(c)[4];
        s.carts.get(c)[4] = 0;
        int without = bestGain();
        s.carts.get(c)[4] = paid;
        return with - without;
    }

    int sets() {
        if (s == null) return -2;
        int n = 0;
        for (int set = 0; set <= all(); set++) if (cheap(set) >= 0) n++;
        return n;
    }

    int often(int c) {
        if (!isCart(c)) return -2;
        int n = 0;
        for (Plan p : plans()) if ((p.kept & 1 << c) != 0) n++;
        return n;
    }

    Plan cheapest(int set) {
        Plan found = null;
        for (Plan p : plans()) if ((p.kept & set) == set && (found == null || p.cost < found.cost)) found = p;
        return found;
    }

    int cheap(int set) {
        if (s == null || set < 0 || set > all()) return -2;
        Plan p = cheapest(set);
        return p == null ? -1 : p.cost;
    }

    int cheaply(int set, int d) {
        if (!isDay(d) || set < 0 || set > all()) return -2;
        Plan p = cheapest(set);
        return p == null ? -1 : p.row[d];
    }

    int soonest(int c) {
        if (!isCart(c)) return -2;
        int first = 99;
        for (Plan p : plans()) if (p.way.passDay[c] >= 0) first = Math.min(first, p.way.passDay[c]);
        return first == 99 ? -1 : first;
    }

    int leastWidth(Plan p) { return Arrays.stream(p.way.width).min().getAsInt(); }

    int hold(int n) {
        if (s == null || n < 0 || n > 60) return -2;
        int least = Integer.MAX_VALUE;
        for (Plan p : plans()) if (leastWidth(p) >= n) least = Math.min(least, p.cost);
        return least == Integer.MAX_VALUE ? -1 : least;
    }

    int widest() {
        if (s == null) return -2;
        int most = 0;
        for (Plan p : plans()) most = Math.max(most, leastWidth(p));
        return most;
    }

    int most(int d) {
        if (!isDay(d)) return -2;
        int most = 0;
        for (Plan p : plans()) most = Math.max(most, p.way.width[d]);
        return most;
    }

    boolean narrowEnough(int set, int width) {
        int sum = 0;
        for (int c = 0; c < s.carts.size(); c++) if ((set & 1 << c) != 0) sum += s.carts.get(c)[1];
        return sum <= width;
    }

    int abreast(int width) {
        if (s == null || width < 0 || width > 99) return -2;
        int most = 0;
        for (int set = 0; set <= all(); set++) if (narrowEnough(set, width)) most = Math.max(most, Integer.bitCount(set));
        return most;
    }

    int load(int width) {
        if (s == null || width < 0 || width > 99) return -2;
        int most = 0;
        for (int set = 0; set <= all(); set++) if (narrowEnough(set, width)) most = Math.max(most, payOf(set));
        return most;
    }

    int loads(int width) {
        if (s == null || width < 0 || width > 99) return -2;
        int most = load(width);
        for (int set = 0; ; set++) if (narrowEnough(set, width) && payOf(set) == most) return set;
    }

    List<List<Integer>> orders(List<Integer> left) {
        List<List<Integer>> all = new ArrayList<>();
        if (left.isEmpty()) all.add(new ArrayList<>());
        for (Integer first : left) {
            List<Integer> others = new ArrayList<>(left);
            others.remove(first);
            for (List<Integer> tail : orders(others)) {
                tail.add(0, first);
                all.add(tail);
            }
        }
        return all;
    }

    int endOf(Way w) {
        int last = 0;
        for (int d : w.passDay) {
            if (d < 0) return 99;
            last = Math.max(last, d);
        }
        return last;
    }

    int queue() {
        if (s == null) return -2;
        int first = 99;
        for (List<Integer> o : orders(numbers())) first = Math.min(first, endOf(go(asLists(doneRow()), s.cools, 0, o)));
        return first == 99 ? -1 : first;
    }

    int queues(int i) {
        if (s == null) return -2;
        int first = queue();
        if (first < 0 || i < 0 || i >= s.carts.size()) return -1;
        for (List<Integer> o : orders(numbers())) {
            if (endOf(go(asLists(doneRow()), s.cools, 0, o)) == first) return o.get(i);
        }
        throw new IllegalStateException();
    }

    int line() {
        if (s == null) return -2;
        int most = 0;
        for (List<Integer> o : orders(numbers())) {
            most = Math.max(most, payOf(keptOf(go(asLists(doneRow()), s.cools, 0, o))));
        }
        return most;
    }

    int widthsWrong(int slot) {
        if (!isSlot(slot) || s == null) return -2;
        if (slots[slot] == null) return -6;
        if (slots[slot].length % 2 == 1) return -2;
        for (int i = 0; i < slots[slot].length; i++) {
            long v = slots[slot][i];
            if (v < 0 || (i % 2 == 0 ? v >= s.days : v > 60)) return -2;
        }
        return 0;
    }

    boolean tells(int slot, Way w) {
        for (int i = 0; i < slots[slot].length; i += 2) {
            if (w.width[(int) slots[slot][i]] != slots[slot][i + 1]) return false;
        }
        return true;
    }

    /** The fitting pairs, as {DEED, DAY}, with their ways. */
    Map<Integer, Way> fitting(int slot) {
        Map<Integer, Way> all = new TreeMap<>();
        for (int deed = 0; deed < s.deeds.size(); deed++) {
            for (int d = 0; d < s.days; d++) {
                int[] row = doneRow();
                row[d] = deed;
                Way w = go(asLists(row), s.cools, 0, numbers());
                if (tells(slot, w)) all.put(10 * deed + d, w);
            }
        }
        return all;
    }

    int fits(int slot) { return widthsWrong(slot) != 0 ? widthsWrong(slot) : fitting(slot).size(); }

    int slights(int slot) {
        if (widthsWrong(slot) != 0) return widthsWrong(slot);
        int bits = 0;
        for (int pair : fitting(slot).keySet()) bits |= 1 << pair / 10;
        return bits;
    }

    int slight(int slot) {
        if (widthsWrong(slot) != 0) return widthsWrong(slot);
        for (int pair : fitting(slot).keySet()) return pair;
        return -1;
    }

    int worst(Map<Integer, Way> all, int d) {
        Map<Integer, Integer> by = new TreeMap<>();
        for (Way w : all.values()) by.merge(w.width[d], 1, Integer::sum);
        int worst = 0;
        for (int n : by.values()) worst = Math.max(worst, n);
        return worst;
    }

    int ask(int slot) {
        if (widthsWrong(slot) != 0) return widthsWrong(slot);
        Map<Integer, Way> all = fitting(slot);
        int fewest = leaves(slot);
        if (fewest == all.size()) return -1;
        for (int d = 0; ; d++) if (worst(all, d) == fewest) return d;
    }

    int leaves(int slot) {
        if (widthsWrong(slot) != 0) return widthsWrong(slot);
        Map<Integer, Way> all = fitting(slot);
        int fewest = all.size();
        for (int d = 0; d < s.days; d++) fewest = Math.min(fewest, worst(all, d));
        return fewest;
    }

    int cools(int slot) {
        if (widthsWrong(slot) != 0) return widthsWrong(slot);
        int n = 0;
        for (int c = 0; c <= 9; c++) if (tells(slot, go(asLists(doneRow()), c, 0, numbers()))) n++;
        return n;
    }

    int cool(int slot) {
        if (widthsWrong(slot) != 0) return widthsWrong(slot);
        for (int c = 0; c <= 9; c++) if (tells(slot, go(asLists(doneRow()), c, 0, numbers()))) return c;
        return -1;
    }

    List<Integer> choices(int side) {
        List<Integer> all = new ArrayList<>();
        all.add(-1);
        for (int d = 0; d < s.deeds.size(); d++) if (s.deeds.get(d)[0] == side) all.add(d);
        return all;
    }

    int has(int side, int one, int other, int d) {
        if (!isDay(d) || side < 0 || side > 1) return -1000000;
        if (!choices(0).contains(one) || !choices(1).contains(other)) return -1000000;
        List<List<Integer>> deeds = asLists(doneRow());
        List<Integer> both = new ArrayList<>();
        if (one >= 0) both.add(one);
        if (other >= 0) both.add(other);
        deeds.set(d, both);
        Way w = go(deeds, s.cools, 0, numbers());
        int sum = 0;
        for (int c = 0; c < s.carts.size(); c++) {
            int[] cart = s.carts.get(c);
            if (cart[0] == side && w.passDay[c] >= 0 && w.passDay[c] <= cart[3]) sum += cart[4];
        }
        int own = side == 0 ? one : other;
        return own < 0 ? sum : sum - s.deeds.get(own)[1];
    }

    List<Integer> atRest(int d) {
        List<Integer> all = new ArrayList<>();
        for (int one : choices(0)) {
            for (int other : choices(1)) {
                boolean rest = true;
                for (int another : choices(0)) rest &= has(0, another, other, d) <= has(0, one, other, d);
                for (int another : choices(1)) rest &= has(1, one, another, d) <= has(1, one, other, d);
                if (rest) all.add(10 * (one + 1) + other + 1);
            }
        }
        all.sort(null);
        return all;
    }

    int rests(int d) { return isDay(d) ? atRest(d).size() : -2; }

    int rest(int d) {
        if (!isDay(d)) return -2;
        return atRest(d).isEmpty() ? -1 : atRest(d).get(0);
    }

    int sharesWrong(int slot) {
        if (!isSlot(slot) || s == null) return -2;
        if (slots[slot] == null) return -6;
        if (slots[slot].length != s.carts.size()) return -2;
        for (long v : slots[slot]) if (v < 0 || v > 999) return -2;
        return 0;
    }

    int shareOf(int slot, int set) {
        int sum = 0;
        for (int c = 0; c < s.carts.size(); c++) if ((set & 1 << c) != 0) sum += (int) slots[slot][c];
        return sum;
    }

    int leave(int slot) {
        if (sharesWrong(slot) != 0) return sharesWrong(slot);
        for (int set = 0; set <= all(); set++) if (cheap(set) >= 0 && shareOf(slot, set) > cheap(set)) return set;
        return -1;
    }

    int fair(int slot) {
        if (sharesWrong(slot) != 0) return sharesWrong(slot);
        return shareOf(slot, all()) == cheap(all()) && leave(slot) == -1 ? 1 : 0;
    }

    /** Of 10 to the DAYS. */
    long chanceOf(int d, int n) {
        long sum = 0;
        for (int bits = 0; bits < 1 << s.days; bits++) {
            long weight = 1;
            for (int k = 0; k < s.days; k++) weight *= (bits & 1 << k) != 0 ? s.odds : 10 - s.odds;
            if (go(asLists(doneRow()), s.cools, bits, numbers()).width[d] >= n) sum += weight;
        }
        return sum;
    }

    long chance(int d, int n, int what) {
        if (!isDay(d) || n < 0 || n > 60 || what < 0 || what > 1) return -2;
        BigInteger above = BigInteger.valueOf(chanceOf(d, n));
        BigInteger below = BigInteger.TEN.pow(s.days);
        BigInteger shared = above.gcd(below);
        return (what == 0 ? above : below).divide(shared).longValue();
    }

    int when(int n) {
        if (s == null || n < 0 || n > 60) return -2;
        long most = 0;
        int found = -1;
        for (int d = 0; d < s.days; d++) {
            if (chanceOf(d, n) > most) {
                most = chanceOf(d, n);
                found = d;
            }
        }
        return found;
    }

    int temperDays(long seed) {
        BigInteger x = BigInteger.valueOf(seed);
        int bits = 0;
        for (int d = 0; d < s.days; d++) {
            x = x.multiply(BigInteger.valueOf(1103515245L)).add(BigInteger.valueOf(12345)).mod(BigInteger.ONE.shiftLeft(31));
            if (x.divide(BigInteger.valueOf(65536)).mod(BigInteger.TEN).intValue() < s.odds) bits += 1 << d;
        }
        return bits;
    }

    int drawn(int seed, int what) {
        if (s == null || seed < 0 || seed > 2000000000 || what < 0 || what > 2) return -2;
        int bits = temperDays(seed);
        Way w = go(asLists(doneRow()), s.cools, bits, numbers());
        return what == 0 ? bits : what == 1 ? w.width[s.days - 1] : passedOf(w);
    }

    int luck(int seed, int n, int c) {
        if (!isCart(c) || seed < 0 || seed > 2000000000 || n < 1 || n > 20) return -2;
        int many = 0;
        for (int i = 0; i < n; i++) {
            Way w = go(asLists(doneRow()), s.cools, temperDays((long) seed + i), numbers());
            if ((keptOf(w) & 1 << c) != 0) many++;
        }
        return many;
    }

    int does(int d, int deed) {
        if (!isDay(d) || deed != -1 && !isDeed(deed)) return -2;
        if (s.acts.size() == 40) return -5;
        int was = doneRow()[d];
        s.acts.add(new int[] {d, deed});
        return was;
    }

    int undo() {
        if (s == null) return -2;
        if (s.acts.isEmpty()) return -5;
        s.acts.remove(s.acts.size() - 1);
        return s.acts.size();
    }

    int anew() {
        if (s == null) return -2;
        int many = s.acts.size();
        s.acts.clear();
        return many;
    }

    int done(int d) { return isDay(d) ? doneRow()[d] : -2; }

    int rate(int c, int n) {
        if (!isCart(c) || n < 0 || n > 999) return -2;
        if (!s.acts.isEmpty()) return -5;
        int was = s.carts.get(c)[4];
        s.carts.get(c)[4] = n;
        return was;
    }

    int count(int what, int tape) {
        if (what < 0 || what > 8) return -1;
        if (what == 7) return tape;
        if (what == 8) return (int) Arrays.stream(slots).filter(r -> r != null).count();
        if (s == null) return 0;
        return new int[] {s.days, s.cools, s.odds, s.deeds.size(), s.carts.size(), s.acts.size(),
            1 + s.deeds.size() + s.carts.size()}[what];
    }

    int image(int k) {
        if (k < 0 || k > 2) return -2;
        images[k] = s == null ? null : s.copy();
        imaged[k] = true;
        return 0;
    }

    int back(int k) {
        if (k < 0 || k > 2) return -2;
        if (!imaged[k]) return -6;
        s = images[k] == null ? null : images[k].copy();
        return 0;
    }

    int row(int slot, int width, int n) {
        if (!isSlot(slot) || width < 0 || width > 3 || n > 60) return -2;
        if (n < 0) return -3;
        slots[slot] = new long[n];
        slotWidth[slot] = width;
        return 0;
    }

    int write(int slot, int i, long v) {
        if (!isSlot(slot)) return -2;
        if (slots[slot] == null) return -6;
        if (i < 0 || i >= slots[slot].length) return -7;
        int spare = 64 - (8 << slotWidth[slot]);
        slots[slot][i] = v << spare >> spare;
        return 0;
    }

    int paste(int slot, int i, int to, int k, int n) {
        if (!isSlot(slot) || !isSlot(to)) return -2;
        if (slots[slot] == null || slots[to] == null) return -6;
        if (slotWidth[slot] != slotWidth[to]) return -8;
        if (i < 0 || k < 0 || n < 0) return -7;
        if ((long) i + n > slots[slot].length || (long) k + n > slots[to].length) return -7;
        long[] kept = slots[slot].clone();
        for (int j = 0; j < n; j++) slots[to][k + j] = kept[i + j];
        return 0;
    }
}
