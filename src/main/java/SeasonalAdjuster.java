/** Seasonal adjustment of a time series in integer arithmetic. */
public final class SeasonalAdjuster {
    public static final int NONE = -1;
    public static final int ADDITIVE = 0, MULTIPLICATIVE = 1;

    private static final int MAX_ENTRIES = 72;
    private static final int MIN_ENTRIES = 5;
    private static final int MAX_VALUE = 1000000;
    private static final int MIN_PERIOD = 2;
    private static final int MAX_PERIOD = 12;
    private static final int PERIOD_AT_FIRST = 4;
    private static final int MAX_ROUNDS = 5;
    private static final int ROUNDS_AT_FIRST = 2;
    private static final int MAX_DAYS = 31;
    private static final int DAYS_AT_FIRST = 20;
    private static final int MAX_FORECAST = 24;
    private static final int UNDO_DEPTH = 4;
    private static final int FULL_WEIGHT = 100;
    private static final long ONE = 10000;
    private static final long THOUSAND = 1000;

    private final Series series;
    private final History history;
    private final Decomposition parts;
    private boolean partsAreStale;

    public SeasonalAdjuster() {
        series = new Series();
        history = new History();
        parts = new Decomposition(series);
        partsAreStale = true;
    }

    public int setPeriod(int period) throws IllegalArgumentException {
        requireArgument(period, MIN_PERIOD, MAX_PERIOD);
        beginChange();
        int previous = series.period;
        series.period = period;
        return previous;
    }

    public int setMode(int mode) throws IllegalArgumentException, IllegalStateException {
        requireArgument(mode, ADDITIVE, MULTIPLICATIVE);
        if (mode == MULTIPLICATIVE && series.hasValueBelowOne()) {
            throw new IllegalStateException("some value is below 1");
        }
        beginChange();
        int previous = series.mode;
        series.mode = mode;
        return previous;
    }

    public int setRounds(int rounds) throws IllegalArgumentException {
        requireArgument(rounds, 0, MAX_ROUNDS);
        beginChange();
        int previous = series.rounds;
        series.rounds = rounds;
        return previous;
    }

    public int append(int value) throws IllegalArgumentException, IllegalStateException {
        requireArgument(value, series.leastValue(), MAX_VALUE);
        requireRoom();
        beginChange();
        return series.addEntry(value, false);
    }

    public int appendMissing() throws IllegalStateException {
        requireRoom();
        beginChange();
        return series.addEntry(0, true);
    }

    public int set(int entry, int value) throws IndexOutOfBoundsException, IllegalArgumentException {
        requireEntry(entry);
        requireArgument(value, series.leastValue(), MAX_VALUE);
        beginChange();
        series.values[entry] = value;
        series.gaps[entry] = false;
        return series.countGaps();
    }

    public int setMissing(int entry) throws IndexOutOfBoundsException, IllegalStateException {
        requireEntry(entry);
        requireValue(entry);
        beginChange();
        int previous = series.values[entry];
        series.values[entry] = 0;
        series.gaps[entry] = true;
        return previous;
    }

    public int setDays(int entry, int days) throws IndexOutOfBoundsException, IllegalArgumentException {
        requireEntry(entry);
        requireArgument(days, 0, MAX_DAYS);
        beginChange();
        int previous = series.days[entry];
        series.days[entry] = days;
        return previous;
    }

    public int removeLast() throws IllegalStateException {
        if (series.entries <= 0) {
            throw new IllegalStateException("there are no entries");
        }
        beginChange();
        series.entries--;
        return series.entries;
    }

    public int fill() throws IllegalStateException {
        if (series.hasUnfillableGap()) {
            throw new IllegalStateException("a season has no value to fill with");
        }
        beginChange();
        return series.fillGaps();
    }

    public int size() {
        return series.entries;
    }

    public int value(int entry) throws IndexOutOfBoundsException, IllegalStateException {
        requireEntry(entry);
        requireValue(entry);
        return series.values[entry];
    }

    public int missing(int index) throws IllegalArgumentException {
        if (index < 0) {
            throw new IllegalArgumentException("the index is negative");
        }
        int before = 0;
        for (int t = 0; t < series.entries; t++) {
            if (series.gaps[t]) {
                if (before == index) {
                    return t;
                }
                before++;
            }
        }
        return NONE;
    }

    public boolean canDecompose() {
        return series.isDecomposable();
    }

    public long firstTrend(int entry) throws IllegalStateException, IndexOutOfBoundsException {
        requireParts();
        requireInner(entry);
        return parts.first[entry];
    }

    public long deviation(int entry) throws IllegalStateException, IndexOutOfBoundsException {
        requireParts();
        requireInner(entry);
        return parts.deviations[entry];
    }

    public int weight(int entry) throws IllegalStateException, IndexOutOfBoundsException {
        requireParts();
        requireInner(entry);
        return parts.weights[entry];
    }

    public long spread() throws IllegalStateException {
        requireParts();
        return parts.width;
    }

    public long factor(int season) throws IllegalArgumentException, IllegalStateException {
        requireArgument(season, 0, series.period - 1);
        requireParts();
        return parts.factors[season];
    }

    public long adjusted(int entry) throws IllegalStateException, IndexOutOfBoundsException {
        requireParts();
        requireEntry(entry);
        return parts.level[entry];
    }

    public long trend(int entry) throws IllegalStateException, IndexOutOfBoundsException {
        requireParts();
        requireEntry(entry);
        return parts.smooth[entry];
    }

    public long irregular(int entry) throws IllegalStateException, IndexOutOfBoundsException {
        requireParts();
        requireEntry(entry);
        return parts.rest[entry];
    }

    public int outlierCount() throws IllegalStateException {
        requireParts();
        return parts.outliers;
    }

    public int outlier(int index) throws IllegalStateException, IndexOutOfBoundsException {
        requireParts();
        if (index < 0 || index >= parts.outliers) {
            throw new IndexOutOfBoundsException("there is no such outlier");
        }
        return parts.outlierOrder[index];
    }

    public int seasonOfRank(int rank) throws IllegalArgumentException, IllegalStateException {
        requireArgument(rank, 0, series.period - 1);
        requireParts();
        return parts.seasonOrder[rank];
    }

    public long forecast(int k) throws IllegalArgumentException, IllegalStateException {
        requireArgument(k, 1, MAX_FORECAST);
        requireParts();
        int last = series.entries - 1;
        int span = Math.min(series.period, last);
        long rise = parts.smooth[last] - parts.smooth[last - span];
        long carried = parts.smooth[last] + quotient(k * rise, span);
        long seasonal = parts.factors[series.seasonOf(last + k)];
        return series.mode == ADDITIVE ? carried + seasonal : quotient(carried * seasonal, ONE);
    }

    public long daysEffect() throws IllegalStateException {
        if (series.mode != ADDITIVE) {
            throw new IllegalStateException("the mode is not additive");
        }
        requireParts();
        long total = series.sumOfDays();
        long products = 0;
        long squares = 0;
        for (int t = 0; t < series.entries; t++) {
            long excess = series.excessDays(t, total);
            products += excess * parts.rest[t];
            squares += excess * excess;
        }
        if (squares <= 0) {
            throw new IllegalStateException("all entries have the same number of days");
        }
        return quotient(THOUSAND * series.entries * products, squares);
    }

    public int removeDays() throws IllegalStateException {
        long effect = daysEffect();
        beginChange();
        return series.subtractDays(effect);
    }

    public int undo() throws IllegalStateException {
        if (history.count <= 0) {
            throw new IllegalStateException("the undo stack is empty");
        }
        history.restoreInto(series);
        partsAreStale = true;
        return history.count;
    }

    public long digest() {
        long hash = 11981;
        hash = 31 * hash + history.count;
        hash = 31 * hash + series.period;
        hash = 31 * hash + series.mode;
        hash = 31 * hash + series.rounds;
        hash = 31 * hash + series.entries;
        for (int t = 0; t < series.entries; t++) {
            hash = 31 * hash + (series.gaps[t] ? 1 : 0);
            hash = 31 * hash + series.values[t];
            hash = 31 * hash + series.days[t];
        }
        if (!series.isDecomposable()) {
            return 31 * hash;
        }
        requireParts();
        return parts.addToHash(31 * hash + 1);
    }

    // Every undoable call comes through here once it can no longer fail, so nothing
    // that throws leaves a saved state behind or an answer of the old series standing.
    private void beginChange() {
        history.save(series);
        partsAreStale = true;
    }

    private void requireParts() {
        if (!series.isDecomposable()) {
            throw new IllegalStateException("the series cannot be decomposed");
        }
        if (partsAreStale) {
            parts.compute();
            partsAreStale = false;
        }
    }

    private void requireEntry(int entry) {
        if (entry < 0 || entry >= series.entries) {
            throw new IndexOutOfBoundsException("there is no such entry");
        }
    }

    private void requireInner(int entry) {
        if (entry < parts.from || entry > parts.to) {
            throw new IndexOutOfBoundsException("it is not defined for this entry");
        }
    }

    private void requireValue(int entry) {
        if (series.gaps[entry]) {
            throw new IllegalStateException("the entry is missing");
        }
    }

    private void requireRoom() {
        if (series.entries >= MAX_ENTRIES) {
            throw new IllegalStateException("the series is full");
        }
    }

    private static void requireArgument(int argument, int least, int greatest) {
        if (argument < least || argument > greatest) {
            throw new IllegalArgumentException("the argument is out of range");
        }
    }

    // The document's a / b. No caller has a divisor below 1; the test keeps it so
    // that the machine cannot throw.
    private static long quotient(long dividend, long divisor) {
        if (divisor <= 0) {
            return 0;
        }
        long amount = dividend < 0 ? -dividend : dividend;
        long whole = amount / divisor;
        long left = amount % divisor;
        if (left >= divisor - left) {
            whole++;
        }
        return dividend < 0 ? -whole : whole;
    }

    /** The state that undo brings back: the settings and the entries. */
    private static final class Series {
        int period = PERIOD_AT_FIRST;
        int mode = ADDITIVE;
        int rounds = ROUNDS_AT_FIRST;
        int entries = 0;
        // A missing entry holds the value 0, as the digest wants it.
        final int[] values = new int[MAX_ENTRIES];
        final boolean[] gaps = new boolean[MAX_ENTRIES];
        final int[] days = new int[MAX_ENTRIES];

        void copyFrom(Series other) {
            period = other.period;
            mode = other.mode;
            rounds = other.rounds;
            entries = other.entries;
            for (int t = 0; t < entries; t++) {
                values[t] = other.values[t];
                gaps[t] = other.gaps[t];
                days[t] = other.days[t];
            }
        }

        int addEntry(int number, boolean gap) {
            int entry = entries;
            if (entry < MAX_ENTRIES) {
                values[entry] = number;
                gaps[entry] = gap;
                days[entry] = DAYS_AT_FIRST;
                entries++;
            }
            return entry;
        }

        int leastValue() {
            return mode == MULTIPLICATIVE ? 1 : -MAX_VALUE;
        }

        int seasonOf(int entry) {
            return period > 0 ? entry % period : 0;
        }

        int half() {
            return period / 2;
        }

        boolean hasValueBelowOne() {
            for (int t = 0; t < entries; t++) {
                if (!gaps[t] && values[t] < 1) {
                    return true;
                }
            }
            return false;
        }

        int countGaps() {
            int count = 0;
            for (int t = 0; t < entries; t++) {
                if (gaps[t]) {
                    count++;
                }
            }
            return count;
        }

        boolean isDecomposable() {
            return entries >= MIN_ENTRIES && entries >= period + 2 * half() && countGaps() == 0;
        }

        // The nearest entry of the same season that has a value, towards the start
        // (direction -1) or the end (direction 1).
        int neighbour(int entry, int direction) {
            int step = Math.max(period, 1);
            for (int distance = step; distance < entries; distance += step) {
                int t = entry + direction * distance;
                if (t >= 0 && t < entries && !gaps[t]) {
                    return t;
                }
            }
            return NONE;
        }

        boolean hasUnfillableGap() {
            for (int t = 0; t < entries; t++) {
                if (gaps[t] && neighbour(t, -1) == NONE && neighbour(t, 1) == NONE) {
                    return true;
                }
            }
            return false;
        }

        // The gaps are closed only after all of them have their value, so that no
        // filled entry serves as the neighbour of another.
        int fillGaps() {
            for (int t = 0; t < entries; t++) {
                if (gaps[t]) {
                    values[t] = fillingFor(t);
                }
            }
            int count = countGaps();
            for (int t = 0; t < entries; t++) {
                gaps[t] = false;
            }
            return count;
        }

        private int fillingFor(int entry) {
            int below = neighbour(entry, -1);
            int above = neighbour(entry, 1);
            if (below == NONE) {
                return above == NONE ? 0 : values[above];
            }
            if (above == NONE) {
                return values[below];
            }
            return (int) quotient((long) values[below] + values[above], 2);
        }

        long sumOfDays() {
            long sum = 0;
            for (int t = 0; t < entries; t++) {
                sum += days[t];
            }
            return sum;
        }

        long excessDays(int entry, long total) {
            return (long) entries * days[entry] - total;
        }

        int subtractDays(long effect) {
            long total = sumOfDays();
            int changed = 0;
            for (int t = 0; t < entries; t++) {
                long share = quotient(effect * excessDays(t, total), THOUSAND * entries);
                long bounded = Math.max(-MAX_VALUE, Math.min(MAX_VALUE, values[t] - share));
                if (bounded != values[t]) {
                    changed++;
                }
                values[t] = (int) bounded;
            }
            return changed;
        }
    }

    /** The saved states, oldest first. Its rows are made once and used again. */
    private static final class History {
        final Series[] saved = new Series[UNDO_DEPTH];
        int count = 0;

        History() {
            for (int i = 0; i < UNDO_DEPTH; i++) {
                saved[i] = new Series();
            }
        }

        void save(Series current) {
            if (count >= UNDO_DEPTH) {
                dropOldest();
            }
            Series slot = saved[count];
            if (slot != null) {
                slot.copyFrom(current);
                count++;
            }
        }

        private void dropOldest() {
            Series oldest = saved[0];
            for (int i = 1; i < UNDO_DEPTH; i++) {
                saved[i - 1] = saved[i];
            }
            saved[UNDO_DEPTH - 1] = oldest;
            count = UNDO_DEPTH - 1;
        }

        void restoreInto(Series current) {
            if (count > 0) {
                count--;
                Series slot = saved[count];
                if (slot != null) {
                    current.copyFrom(slot);
                }
            }
        }
    }

    /** The components of the series, steps (1) to (7), and their orders. */
    private static final class Decomposition {
        final Series series;
        final long[] first = new long[MAX_ENTRIES];
        final long[] deviations = new long[MAX_ENTRIES];
        final int[] weights = new int[MAX_ENTRIES];
        final long[] distances = new long[MAX_ENTRIES];
        final long[] factors = new long[MAX_PERIOD];
        final long[] level = new long[MAX_ENTRIES];
        final long[] smooth = new long[MAX_ENTRIES];
        final long[] rest = new long[MAX_ENTRIES];
        final int[] outlierOrder = new int[MAX_ENTRIES];
        final int[] seasonOrder = new int[MAX_PERIOD];
        long width = 0;
        int outliers = 0;
        int from = 0;
        int to = 0;

        Decomposition(Series source) {
            series = source;
        }

        // Only for a series that can be decomposed: every index below rests on that.
        void compute() {
            from = series.half();
            to = series.entries - 1 - from;
            computeFirstTrend();
            computeDeviations();
            giveFullWeights();
            computeFactors();
            computeDistances();
            for (int round = 0; round < series.rounds; round++) {
                computeWeights();
                computeFactors();
                computeDistances();
            }
            computeLevel();
            computeSmooth();
            computeRest();
            orderOutliers();
            orderSeasons();
        }

        private void computeFirstTrend() {
            for (int t = from; t <= to; t++) {
                long inner = 0;
                for (int i = t - from + 1; i < t + from; i++) {
                    inner += series.values[i];
                }
                long ends = (long) series.values[t - from] + series.values[t + from];
                first[t] = series.period % 2 == 1
                        ? quotient(inner + ends, series.period)
                        : quotient(2 * inner + ends, 2L * series.period);
            }
        }

        private void computeDeviations() {
            for (int t = from; t <= to; t++) {
                deviations[t] = series.mode == ADDITIVE
                        ? series.values[t] - first[t]
                        : quotient(ONE * series.values[t], first[t]);
            }
        }

        private void giveFullWeights() {
            for (int t = from; t <= to; t++) {
                weights[t] = FULL_WEIGHT;
            }
        }

        private void computeFactors() {
            long sum = 0;
            for (int s = 0; s < series.period; s++) {
                factors[s] = rawFactor(s);
                sum += factors[s];
            }
            for (int s = 0; s < series.period; s++) {
                factors[s] = series.mode == ADDITIVE
                        ? factors[s] - quotient(sum, series.period)
                        : ratioFactor(factors[s], sum);
            }
        }

        private long rawFactor(int season) {
            long weighted = 0;
            long plain = 0;
            long weightSum = 0;
            long count = 0;
            for (int t = from; t <= to; t++) {
                if (series.seasonOf(t) == season) {
                    weighted += weights[t] * deviations[t];
                    plain += deviations[t];
                    weightSum += weights[t];
                    count++;
                }
            }
            return weightSum == 0 ? quotient(plain, count) : quotient(weighted, weightSum);
        }

        private long ratioFactor(long raw, long sum) {
            return sum == 0 ? 1 : Math.max(1, quotient(ONE * series.period * raw, sum));
        }

        private void computeDistances() {
            long sum = 0;
            for (int t = from; t <= to; t++) {
                distances[t] = Math.abs(deviations[t] - factors[series.seasonOf(t)]);
                sum += distances[t];
            }
            width = quotient(5 * sum, 4L * (to - from + 1));
        }

        private void computeWeights() {
            for (int t = from; t <= to; t++) {
                weights[t] = weightFor(2 * distances[t]);
            }
        }

        private int weightFor(long doubled) {
            if (doubled <= 3 * width) {
                return FULL_WEIGHT;
            }
            if (doubled >= 5 * width) {
                return 0;
            }
            return (int) quotient(FULL_WEIGHT * (5 * width - doubled), 2 * width);
        }

        private void computeLevel() {
            for (int t = 0; t < series.entries; t++) {
                long seasonal = factors[series.seasonOf(t)];
                level[t] = series.mode == ADDITIVE
                        ? series.values[t] - seasonal
                        : quotient(ONE * series.values[t], seasonal);
            }
        }

        private void computeSmooth() {
            for (int t = 2; t < series.entries - 2; t++) {
                long outer = level[t - 2] + level[t + 2];
                long near = level[t - 1] + level[t + 1];
                smooth[t] = quotient(-73 * outer + 294 * near + 558 * level[t], THOUSAND);
            }
            computeSmoothEnd(0, 1);
            computeSmoothEnd(series.entries - 1, -1);
        }

        // The entry next to an end has a short filter of its own, and the end goes on
        // straight from the two entries before it.
        private void computeSmoothEnd(int end, int inward) {
            int second = end + inward;
            int third = second + inward;
            smooth[second] = quotient(level[end] + 2 * level[second] + level[third], 4);
            smooth[end] = 2 * smooth[second] - smooth[third];
        }

        private void computeRest() {
            for (int t = 0; t < series.entries; t++) {
                rest[t] = series.mode == ADDITIVE ? level[t] - smooth[t] : restRatio(t);
            }
        }

        private long restRatio(int entry) {
            return smooth[entry] > 0 ? quotient(ONE * level[entry], smooth[entry]) : ONE;
        }

        // Entries are put in by ascending number and pass only those that they surpass,
        // so that of equal ones the lower stays first. The same holds for the seasons.
        private void orderOutliers() {
            outliers = 0;
            for (int t = from; t <= to; t++) {
                if (weights[t] < FULL_WEIGHT) {
                    int place = outliers;
                    while (place > 0 && isMoreExtreme(t, outlierOrder[place - 1])) {
                        outlierOrder[place] = outlierOrder[place - 1];
                        place--;
                    }
                    outlierOrder[place] = t;
                    outliers++;
                }
            }
        }

        private boolean isMoreExtreme(int entry, int other) {
            if (weights[entry] != weights[other]) {
                return weights[entry] < weights[other];
            }
            return distances[entry] > distances[other];
        }

        private void orderSeasons() {
            for (int s = 0; s < series.period; s++) {
                int place = s;
                while (place > 0 && factors[s] > factors[seasonOrder[place - 1]]) {
                    seasonOrder[place] = seasonOrder[place - 1];
                    place--;
                }
                seasonOrder[place] = s;
            }
        }

        long addToHash(long start) {
            long hash = 31 * start + width;
            for (int s = 0; s < series.period; s++) {
                hash = 31 * hash + factors[s];
            }
            hash = 31 * hash + outliers;
            for (int t = from; t <= to; t++) {
                hash = 31 * hash + weights[t];
            }
            for (int t = 0; t < series.entries; t++) {
                hash = 31 * hash + smooth[t];
                hash = 31 * hash + rest[t];
            }
            return hash;
        }
    }
}
