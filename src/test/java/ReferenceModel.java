import java.math.BigDecimal;
import java.math.BigInteger;
import java.math.RoundingMode;
import java.util.ArrayDeque;
import java.util.ArrayList;
import java.util.Comparator;
import java.util.List;
import java.util.TreeMap;

/** The document once more, word by word, with numbers without bounds and without speed. */
final class ReferenceModel {
    private static final class Illegal extends RuntimeException {
        private static final long serialVersionUID = 1;
        Illegal(String name) {
            super(name);
        }
    }

    private record Entry(Integer value, int days) { }

    private record State(int period, int mode, int rounds, List<Entry> entries) { }

    private State now = new State(4, 0, 2, List.of());
    private final ArrayDeque<State> stack = new ArrayDeque<>();

    /** What the call answers: a number, or throws. and a name. */
    String answer(String method, int a, int b) {
        try {
            return call(method, a, b).toString();
        } catch (Illegal e) {
            return "throws." + e.getMessage();
        }
    }

    int size() {
        return n();
    }

    private BigInteger call(String method, int a, int b) {
        switch (method) {
            case "setPeriod": return setPeriod(a);
            case "setMode": return setMode(a);
            case "setRounds": return setRounds(a);
            case "append": return append(a);
            case "appendMissing": return appendMissing();
            case "set": return set(a, b);
            case "setMissing": return setMissing(a);
            case "setDays": return setDays(a, b);
            case "removeLast": return removeLast();
            case "fill": return fill();
            case "size": return big(n());
            case "value": return value(a);
            case "missing": return missing(a);
            case "canDecompose": return big(canDecompose() ? 1 : 0);
            case "undo": return undo();
            case "digest": return digest();
            case "removeDays": return removeDays();
            case "daysEffect": return daysEffect();
            default: return component(method, a);
        }
    }

    private BigInteger component(String method, int a) {
        if (method.equals("factor") || method.equals("seasonOfRank")) {
            demand(a >= 0 && a < now.period, "IllegalArgumentException");
        }
        if (method.equals("forecast")) {
            demand(a >= 1 && a <= 24, "IllegalArgumentException");
        }
        demand(canDecompose(), "IllegalStateException");
        Parts parts = new Parts(now);
        switch (method) {
            case "spread": return parts.spread;
            case "factor": return parts.f.get(a);
            case "outlierCount": return big(parts.outliers().size());
            case "seasonOfRank": return big(parts.ranks().get(a));
            case "forecast": return parts.forecast(a);
            case "firstTrend": return at(parts.firstTrend, a);
            case "deviation": return at(parts.d, a);
            case "weight": return at(parts.w, a);
            case "adjusted": return at(parts.g, a);
            case "trend": return at(parts.trend, a);
            case "irregular": return at(parts.irregular, a);
            case "outlier":
                demand(a >= 0 && a < parts.outliers().size(), "IndexOutOfBoundsException");
                return big(parts.outliers().get(a));
            default: throw new AssertionError(method);
        }
    }

    private static BigInteger at(TreeMap<Integer, BigInteger> row, int t) {
        demand(row.containsKey(t), "IndexOutOfBoundsException");
        return row.get(t);
    }

    private static BigInteger big(long v) {
        return BigInteger.valueOf(v);
    }

    static BigInteger over(BigInteger a, BigInteger b) {
        if (b.signum() <= 0) {
            throw new AssertionError("divisor " + b);
        }
        return new BigDecimal(a).divide(new BigDecimal(b), 0, RoundingMode.HALF_UP).toBigIntegerExact();
    }

    private static void demand(boolean holds, String otherwise) {
        if (!holds) {
            throw new Illegal(otherwise);
        }
    }

    private void change(State next) {
        stack.push(now);
        if (stack.size() > 4) {
            stack.removeLast();
        }
        now = next;
    }

    private void changeEntries(List<Entry> entries) {
        change(new State(now.period, now.mode, now.rounds, List.copyOf(entries)));
    }

    private int n() {
        return now.entries.size();
    }

    private BigInteger setPeriod(int p) {
        demand(p >= 2 && p <= 12, "IllegalArgumentException");
        int previous = now.period;
        change(new State(p, now.mode, now.rounds, now.entries));
        return big(previous);
    }

    private BigInteger setMode(int mode) {
        demand(mode == 0 || mode == 1, "IllegalArgumentException");
        demand(mode == 0 || now.entries.stream().allMatch(e -> e.value == null || e.value >= 1),
                "IllegalStateException");
        int previous = now.mode;
        change(new State(now.period, mode, now.rounds, now.entries));
        return big(previous);
    }

    private BigInteger setRounds(int r) {
        demand(r >= 0 && r <= 5, "IllegalArgumentException");
        int previous = now.rounds;
        change(new State(now.period, now.mode, r, now.entries));
        return big(previous);
    }

    private void demandValue(int v) {
        demand(v <= 1000000 && v >= (now.mode == 1 ? 1 : -1000000), "IllegalArgumentException");
    }

    private void demandEntry(int t) {
        demand(t >= 0 && t < n(), "IndexOutOfBoundsException");
    }

    private BigInteger append(int v) {
        demandValue(v);
        return appendEntry(v);
    }

    private BigInteger appendMissing() {
        return appendEntry(null);
    }

    private BigInteger appendEntry(Integer v) {
        demand(n() < 72, "IllegalStateException");
        List<Entry> next = new ArrayList<>(now.entries);
        next.add(new Entry(v, 20));
        changeEntries(next);
        return big(n() - 1);
    }

    private void replace(int t, Entry e) {
        List<Entry> next = new ArrayList<>(now.entries);
        next.set(t, e);
        changeEntries(next);
    }

    private BigInteger set(int t, int v) {
        demandEntry(t);
        demandValue(v);
        replace(t, new Entry(v, now.entries.get(t).days));
        return big(now.entries.stream().filter(e -> e.value == null).count());
    }

    private BigInteger setMissing(int t) {
        BigInteger previous = value(t);
        replace(t, new Entry(null, now.entries.get(t).days));
        return previous;
    }

    private BigInteger setDays(int t, int days) {
        demandEntry(t);
        demand(days >= 0 && days <= 31, "IllegalArgumentException");
        int previous = now.entries.get(t).days;
        replace(t, new Entry(now.entries.get(t).value, days));
        return big(previous);
    }

    private BigInteger removeLast() {
        demand(n() > 0, "IllegalStateException");
        changeEntries(now.entries.subList(0, n() - 1));
        return big(n());
    }

    private BigInteger fill() {
        List<Entry> next = new ArrayList<>(now.entries);
        int filled = 0;
        for (int t = 0; t < n(); t++) {
            if (now.entries.get(t).value == null) {
                Integer p = null;
                Integer q = null;
                for (int i = 0; i < n(); i++) {
                    Integer x = now.entries.get(i).value;
                    if (i % now.period == t % now.period && x != null) {
                        p = i < t ? x : p;
                        q = i > t && q == null ? x : q;
                    }
                }
                demand(p != null || q != null, "IllegalStateException");
                int v = p == null ? q : q == null ? p : over(big((long) p + q), big(2)).intValueExact();
                next.set(t, new Entry(v, now.entries.get(t).days));
                filled++;
            }
        }
        changeEntries(next);
        return big(filled);
    }

    private BigInteger value(int t) {
        demandEntry(t);
        demand(now.entries.get(t).value != null, "IllegalStateException");
        return big(now.entries.get(t).value);
    }

    private BigInteger missing(int index) {
        demand(index >= 0, "IllegalArgumentException");
        List<Integer> all = new ArrayList<>();
        for (int t = 0; t < n(); t++) {
            if (now.entries.get(t).value == null) {
                all.add(t);
            }
        }
        return big(index < all.size() ? all.get(index) : -1);
    }

    private boolean canDecompose() {
        return n() >= 5 && n() >= now.period + 2 * (now.period / 2)
                && now.entries.stream().noneMatch(e -> e.value == null);
    }

    private BigInteger v(int t) {
        long sum = now.entries.stream().mapToLong(Entry::days).sum();
        return big((long) n() * now.entries.get(t).days - sum);
    }

    private BigInteger daysEffect() {
        demand(now.mode == 0 && canDecompose(), "IllegalStateException");
        demand(now.entries.stream().mapToInt(Entry::days).distinct().count() > 1, "IllegalStateException");
        Parts parts = new Parts(now);
        BigInteger above = BigInteger.ZERO;
        BigInteger below = BigInteger.ZERO;
        for (int t = 0; t < n(); t++) {
            above = above.add(v(t).multiply(parts.irregular.get(t)));
            below = below.add(v(t).pow(2));
        }
        return over(big(1000L * n()).multiply(above), below);
    }

    private BigInteger removeDays() {
        BigInteger effect = daysEffect();
        List<Entry> next = new ArrayList<>();
        int changed = 0;
        for (int t = 0; t < n(); t++) {
            Entry e = now.entries.get(t);
            BigInteger x = big(e.value).subtract(over(effect.multiply(v(t)), big(1000L * n())));
            int bounded = x.max(big(-1000000)).min(big(1000000)).intValueExact();
            changed += bounded == e.value ? 0 : 1;
            next.add(new Entry(bounded, e.days));
        }
        changeEntries(next);
        return big(changed);
    }

    private BigInteger undo() {
        demand(!stack.isEmpty(), "IllegalStateException");
        now = stack.pop();
        return big(stack.size());
    }

    private BigInteger digest() {
        List<BigInteger> all = new ArrayList<>(List.of(big(stack.size()), big(now.period), big(now.mode),
                big(now.rounds), big(n())));
        for (Entry e : now.entries) {
            all.add(big(e.value == null ? 1 : 0));
            all.add(big(e.value == null ? 0 : e.value));
            all.add(big(e.days));
        }
        all.add(big(canDecompose() ? 1 : 0));
        if (canDecompose()) {
            Parts parts = new Parts(now);
            all.add(parts.spread);
            all.addAll(parts.f);
            all.add(big(parts.outliers().size()));
            all.addAll(parts.w.values());
            for (int t = 0; t < n(); t++) {
                all.add(parts.trend.get(t));
                all.add(parts.irregular.get(t));
            }
        }
        BigInteger h = big(11981);
        for (BigInteger v : all) {
            h = h.multiply(big(31)).add(v);
        }
        return big(h.longValue());
    }

    /** Steps (1) to (7). */
    private static final class Parts {
        final int n;
        final int p;
        final boolean additive;
        final List<BigInteger> x = new ArrayList<>();
        final TreeMap<Integer, BigInteger> firstTrend = new TreeMap<>();
        final TreeMap<Integer, BigInteger> d = new TreeMap<>();
        final TreeMap<Integer, BigInteger> w = new TreeMap<>();
        final TreeMap<Integer, BigInteger> e = new TreeMap<>();
        final TreeMap<Integer, BigInteger> g = new TreeMap<>();
        final TreeMap<Integer, BigInteger> trend = new TreeMap<>();
        final TreeMap<Integer, BigInteger> irregular = new TreeMap<>();
        final List<BigInteger> f = new ArrayList<>();
        BigInteger spread;

        Parts(State state) {
            n = state.entries.size();
            p = state.period;
            additive = state.mode == 0;
            state.entries.forEach(entry -> x.add(big(entry.value)));
            steps1And2();
            d.keySet().forEach(t -> w.put(t, big(100)));
            step3();
            for (int r = 0; r < state.rounds; r++) {
                spreadAndDistances();
                newWeights();
                step3();
            }
            spreadAndDistances();
            steps5To7();
        }

        private static BigInteger tenThousand() {
            return big(10000);
        }

        private void steps1And2() {
            int h = p / 2;
            for (int t = h; t <= n - 1 - h; t++) {
                BigInteger sum = BigInteger.ZERO;
                for (int i = t - h; i <= t + h; i++) {
                    boolean end = i == t - h || i == t + h;
                    sum = sum.add(x.get(i).multiply(big(p % 2 == 0 && !end ? 2 : 1)));
                }
                firstTrend.put(t, over(sum, big(p % 2 == 0 ? 2L * p : p)));
                d.put(t, additive ? x.get(t).subtract(firstTrend.get(t))
                        : over(tenThousand().multiply(x.get(t)), firstTrend.get(t)));
            }
        }

        private void step3() {
            List<BigInteger> raw = new ArrayList<>();
            BigInteger z = BigInteger.ZERO;
            for (int s = 0; s < p; s++) {
                BigInteger above = BigInteger.ZERO;
                BigInteger plain = BigInteger.ZERO;
                BigInteger weights = BigInteger.ZERO;
                int count = 0;
                for (int t : d.keySet()) {
                    if (t % p == s) {
                        above = above.add(w.get(t).multiply(d.get(t)));
                        plain = plain.add(d.get(t));
                        weights = weights.add(w.get(t));
                        count++;
                    }
                }
                raw.add(weights.signum() == 0 ? over(plain, big(count)) : over(above, weights));
                z = z.add(raw.get(s));
            }
            f.clear();
            for (BigInteger r : raw) {
                if (additive) {
                    f.add(r.subtract(over(z, big(p))));
                } else if (z.signum() == 0) {
                    f.add(BigInteger.ONE);
                } else {
                    f.add(over(tenThousand().multiply(big(p)).multiply(r), z).max(BigInteger.ONE));
                }
            }
        }

        private void spreadAndDistances() {
            BigInteger sum = BigInteger.ZERO;
            for (int t : d.keySet()) {
                e.put(t, d.get(t).subtract(f.get(t % p)));
                sum = sum.add(e.get(t).abs());
            }
            spread = over(big(5).multiply(sum), big(4L * d.size()));
        }

        private void newWeights() {
            BigInteger three = spread.multiply(big(3));
            BigInteger five = spread.multiply(big(5));
            for (int t : d.keySet()) {
                BigInteger twice = e.get(t).abs().multiply(big(2));
                BigInteger weight;
                if (twice.compareTo(three) <= 0) {
                    weight = big(100);
                } else if (twice.compareTo(five) >= 0) {
                    weight = big(0);
                } else {
                    weight = over(big(100).multiply(five.subtract(twice)), spread.multiply(big(2)));
                }
                w.put(t, weight);
            }
        }

        private void steps5To7() {
            for (int t = 0; t < n; t++) {
                BigInteger s = f.get(t % p);
                g.put(t, additive ? x.get(t).subtract(s) : over(tenThousand().multiply(x.get(t)), s));
            }
            for (int t = 2; t <= n - 3; t++) {
                trend.put(t, over(weighted(t, -73, 294, 558, 294, -73), big(1000)));
            }
            trend.put(1, over(weighted(1, 0, 1, 2, 1, 0), big(4)));
            trend.put(n - 2, over(weighted(n - 2, 0, 1, 2, 1, 0), big(4)));
            trend.put(0, trend.get(1).multiply(big(2)).subtract(trend.get(2)));
            trend.put(n - 1, trend.get(n - 2).multiply(big(2)).subtract(trend.get(n - 3)));
            for (int t = 0; t < n; t++) {
                BigInteger ratio = trend.get(t).signum() <= 0 ? tenThousand()
                        : over(tenThousand().multiply(g.get(t)), trend.get(t));
                irregular.put(t, additive ? g.get(t).subtract(trend.get(t)) : ratio);
            }
        }

        private BigInteger weighted(int t, int... factors) {
            BigInteger sum = BigInteger.ZERO;
            for (int i = 0; i < 5; i++) {
                if (factors[i] != 0) {
                    sum = sum.add(g.get(t - 2 + i).multiply(big(factors[i])));
                }
            }
            return sum;
        }

        List<Integer> outliers() {
            List<Integer> all = new ArrayList<>(d.keySet());
            all.removeIf(t -> w.get(t).intValue() >= 100);
            all.sort(Comparator.<Integer, BigInteger>comparing(t -> w.get(t))
                    .thenComparing(t -> e.get(t).abs().negate())
                    .thenComparing(t -> t));
            return all;
        }

        List<Integer> ranks() {
            List<Integer> all = new ArrayList<>();
            for (int s = 0; s < p; s++) {
                all.add(s);
            }
            all.sort(Comparator.<Integer, BigInteger>comparing(s -> f.get(s).negate()).thenComparing(s -> s));
            return all;
        }

        BigInteger forecast(int k) {
            int m = Math.min(p, n - 1);
            BigInteger end = trend.get(n - 1);
            BigInteger rise = big(k).multiply(end.subtract(trend.get(n - 1 - m)));
            BigInteger u = end.add(over(rise, big(m)));
            BigInteger s = f.get((n - 1 + k) % p);
            return additive ? u.add(s) : over(u.multiply(s), tenThousand());
        }
    }
}
