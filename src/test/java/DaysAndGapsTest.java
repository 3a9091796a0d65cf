/** The boundary cases of the sections WORKING DAYS and MISSING VALUES. */
public final class DaysAndGapsTest {
    private static final Check check = new Check();

    public static void main(String[] args) {
        oneDayMoreOrLess();
        leastAndGreatestDays();
        shortestSeries();
        fullSeries();
        removedEntriesDoNotCount();
        definedOnlyWithADecomposition();
        removedUpToTheGreatestValue();
        removedDownToTheLeastValue();
        unchangedEntriesAreNotCounted();
        filledFromOneSide();
        filledFromTheNearest();
        filledFromTheValuesBefore();
        filledOfAllSeasonsOrNone();
        filledInEveryMode();
        check.finish();
    }

    // v is 8 at the entry and -1 elsewhere, and the sum of all i(t) is -7: 9000 * (9 * i(t) + 7) / 72.
    private static void oneDayMoreOrLess() {
        int[] effects = {-4750, 5375, -2500, -3625, 11000, -3625, -2500, 5375, -4750};
        for (int entry = 0; entry < 9; entry++) {
            SeasonalAdjuster x = Make.spiked();
            check.illegalState("all days equal", x::daysEffect);
            x.setDays(entry, 21);
            long effect = x.daysEffect();
            check.same("a day more at " + entry, effect, effects[entry]);
            x.setDays(entry, 19);
            check.same("a day less at " + entry, x.daysEffect(), -effect);
            x.setDays(entry, 20);
            check.illegalState("all days equal again", x::daysEffect);
            check.illegalState("nothing to remove", x::removeDays);
        }
    }

    // v is 31 times as great as with one day more: 11000 / 31 is 354.8.
    private static void leastAndGreatestDays() {
        SeasonalAdjuster x = Make.spiked();
        for (int t = 0; t < 9; t++) {
            x.setDays(t, t == 4 ? 31 : 0);
        }
        check.same("31 days against 0", x.daysEffect(), 355);
        check.same("31 days against 0: removeDays", x.removeDays(), 9);
        check.row("31 days against 0: value", x::value, 0, 11, 5, 11, 5, 30, 5, 11, 5, 11);
        x = Make.spiked();
        for (int t = 0; t < 9; t++) {
            x.setDays(t, t == 4 ? 0 : 31);
        }
        check.same("0 days against 31", x.daysEffect(), -355);
    }

    private static void shortestSeries() {
        SeasonalAdjuster x = Make.of(2, 0, 0, 5, 1, 0, 4, 0);
        x.setDays(1, 21);
        x.setDays(3, 19);
        check.same("n = 5: daysEffect", x.daysEffect(), -1500);
        x.removeLast();
        check.illegalState("n = 4: daysEffect", x::daysEffect);
        check.illegalState("n = 4: removeDays", x::removeDays);
    }

    // v is 71 at one entry and -1 elsewhere, the sum of all i(t) is 18, and i(0) is 1, i(71) is 29:
    // 72000 * 54 / 5112 and 72000 * 2070 / 5112.
    private static void fullSeries() {
        int[] values = new int[72];
        values[71] = 72;
        SeasonalAdjuster first = Make.of(2, 0, 0, values);
        first.setDays(0, 21);
        check.same("n = 72, the first entry: daysEffect", first.daysEffect(), 761);
        check.same("n = 72, the first entry: removeDays", first.removeDays(), 1);
        check.same("n = 72, the first entry: value", first.value(0), -1);
        SeasonalAdjuster last = Make.of(2, 0, 0, values);
        last.setDays(71, 21);
        check.same("n = 72, the last entry: daysEffect", last.daysEffect(), 29155);
        check.same("n = 72, the last entry: removeDays", last.removeDays(), 1);
        check.same("n = 72, the last entry: value", last.value(71), 43);
    }

    private static void removedEntriesDoNotCount() {
        SeasonalAdjuster x = Make.spiked();
        x.append(4);
        x.setDays(9, 31);
        x.removeLast();
        check.illegalState("the days that are left are equal", x::daysEffect);
        x.setDays(4, 21);
        check.same("daysEffect of those that are left", x.daysEffect(), 11000);
    }

    private static void definedOnlyWithADecomposition() {
        SeasonalAdjuster x = Make.spiked();
        x.setDays(4, 21);
        check.same("daysEffect", x.daysEffect(), 11000);
        x.setMissing(0);
        check.illegalState("a missing entry: daysEffect", x::daysEffect);
        check.illegalState("a missing entry: removeDays", x::removeDays);
        x.set(0, 10);
        x.setMode(1);
        check.illegalState("ratios: daysEffect", x::daysEffect);
        check.illegalState("ratios: removeDays", x::removeDays);
        x.setMode(0);
        check.same("daysEffect again", x.daysEffect(), 11000);
    }

    // The effect is 108750 with v 8 at entry 4 and -1 elsewhere, so that 12 are added
    // everywhere but at entry 4, from which 97 go; high is the value of the odd entries.
    private static SeasonalAdjuster near(int bound, int high) {
        int sign = bound < 0 ? -1 : 1;
        int low = high - 990;
        SeasonalAdjuster x = Make.of(2, 0, 2, sign * low, sign * high, sign * low, sign * high, sign * (low + 300),
                sign * high, sign * low, sign * high, sign * low);
        x.setDays(4, 21);
        return x;
    }

    private static void removedUpToTheGreatestValue() {
        int[][] cases = {{999987, 999999, 9}, {999988, 1000000, 9}, {999989, 1000000, 9}, {999999, 1000000, 9},
            {1000000, 1000000, 5}};
        for (int[] one : cases) {
            SeasonalAdjuster x = near(1000000, one[0]);
            check.same("high " + one[0] + ": daysEffect", x.daysEffect(), 108750);
            check.same("high " + one[0] + ": removeDays", x.removeDays(), one[2]);
            int low = one[0] - 990 + 12;
            check.row("high " + one[0] + ": value", x::value, 0, low, one[1], low, one[1], low + 300 - 109, one[1], low,
                    one[1], low);
        }
    }

    private static void removedDownToTheLeastValue() {
        int[][] cases = {{999987, -999999, 9}, {999988, -1000000, 9}, {999989, -1000000, 9}, {999999, -1000000, 9},
            {1000000, -1000000, 5}};
        for (int[] one : cases) {
            SeasonalAdjuster x = near(-1000000, one[0]);
            check.same("low -" + one[0] + ": daysEffect", x.daysEffect(), -108750);
            check.same("low -" + one[0] + ": removeDays", x.removeDays(), one[2]);
            int high = -one[0] + 990 - 12;
            check.row("low -" + one[0] + ": value", x::value, 0, high, one[1], high, one[1], high - 300 + 109, one[1],
                    high, one[1], high);
        }
    }

    // An effect of -1500 moves the entries with v = 5 and v = -5 and not those with v = 0.
    private static void unchangedEntriesAreNotCounted() {
        SeasonalAdjuster some = Make.of(2, 0, 0, 5, 1, 0, 4, 0);
        some.setDays(1, 21);
        some.setDays(3, 19);
        check.same("two of five: removeDays", some.removeDays(), 2);
        SeasonalAdjuster flat = Make.of(2, 0, 2, 7, 7, 7, 7, 7);
        flat.setDays(4, 31);
        check.same("no effect: daysEffect", flat.daysEffect(), 0);
        check.same("no effect: removeDays", flat.removeDays(), 0);
        check.row("no effect: value", flat::value, 0, 7, 7, 7, 7, 7);
    }

    private static SeasonalAdjuster withGaps(int period, int length, int... gaps) {
        SeasonalAdjuster x = Make.rising(length, 0);
        x.setPeriod(period);
        for (int gap : gaps) {
            x.setMissing(gap);
        }
        return x;
    }

    private static void filledFromOneSide() {
        SeasonalAdjuster first = withGaps(2, 6, 0);
        check.same("the first entry: fill", first.fill(), 1);
        check.same("the first entry: value", first.value(0), 3);
        SeasonalAdjuster last = withGaps(2, 6, 5);
        check.same("the last entry: fill", last.fill(), 1);
        check.same("the last entry: value", last.value(5), 4);
        // A single value of a season, at either end of a full series, fills all the others.
        for (int keep : new int[] {0, 70}) {
            SeasonalAdjuster x = Make.rising(72, 0);
            x.setPeriod(2);
            for (int t = 0; t < 72; t += 2) {
                if (t != keep) {
                    x.setMissing(t);
                }
            }
            check.same("from entry " + keep + ": fill", x.fill(), 35);
            for (int t = 0; t < 72; t++) {
                check.same("from entry " + keep + ": value", x.value(t), t % 2 == 0 ? keep + 1 : t + 1);
            }
        }
        // In 24 entries each season of P = 12 has one other entry.
        SeasonalAdjuster upper = withGaps(12, 24, 11, 12);
        check.same("P = 12: fill", upper.fill(), 2);
        check.same("P = 12: value from above", upper.value(11), 24);
        check.same("P = 12: value from below", upper.value(12), 1);
    }

    private static void filledFromTheNearest() {
        SeasonalAdjuster x = Make.of(2, 0, 2, 100, 7, 10, 7, 0, 7, 20, 7, 900);
        x.setMissing(4);
        x.fill();
        check.same("p the greatest below, q the least above", x.value(4), 15);
        SeasonalAdjuster above = Make.of(2, 0, 2, 0, 7, 10, 7, 900);
        above.setMissing(0);
        above.fill();
        check.same("q alone is the least above", above.value(0), 10);
        SeasonalAdjuster below = Make.of(2, 0, 2, 900, 7, 10, 7, 0);
        below.setMissing(4);
        below.fill();
        check.same("p alone is the greatest below", below.value(4), 10);
    }

    private static void filledFromTheValuesBefore() {
        SeasonalAdjuster x = Make.of(2, 0, 2, 0, 7, 1, 7, 1, 7, 1, 7, 100);
        x.setMissing(2);
        x.setMissing(4);
        x.setMissing(6);
        check.same("three neighbours: fill", x.fill(), 3);
        check.row("three neighbours: value", x::value, 0, 0, 7, 50, 7, 50, 7, 50, 7, 100);
        check.same("nothing is missing then", x.missing(0), SeasonalAdjuster.NONE);
        check.same("fill once more", x.fill(), 0);
    }

    private static void filledOfAllSeasonsOrNone() {
        check.same("an empty series: fill", new SeasonalAdjuster().fill(), 0);
        check.same("nothing missing: fill", Make.rising(72, 0).fill(), 0);
        check.illegalState("a season without a value", () -> withGaps(4, 8, 0, 3, 7).fill());
        check.same("one value in each season", withGaps(4, 8, 0, 5, 2, 7).fill(), 4);
        check.illegalState("n = P", () -> withGaps(8, 8, 3).fill());
        check.illegalState("n = P, without the first", () -> withGaps(8, 8, 0).fill());
        check.same("n = P + 1, the first", withGaps(8, 9, 0).fill(), 1);
        check.same("n = P + 1, the last", withGaps(8, 9, 8).fill(), 1);
        check.illegalState("n = P + 1, another", () -> withGaps(8, 9, 7).fill());
        SeasonalAdjuster all = new SeasonalAdjuster();
        for (int i = 0; i < 72; i++) {
            all.appendMissing();
        }
        check.illegalState("72 missing entries", all::fill);
    }

    private static void filledInEveryMode() {
        SeasonalAdjuster least = Make.of(2, 1, 2, 1, 7, 5, 7, 1);
        least.setMissing(2);
        check.same("ratios: fill", least.fill(), 1);
        check.same("between 1 and 1", least.value(2), 1);
        check.same("the mode allows it", least.setMode(1), 1);
        SeasonalAdjuster extremes = Make.of(2, 0, 2, -1000000, 7, 5, 7, -1000000, 7, 5, 7, 1000000, 7, 5, 7, 1000000);
        extremes.setMissing(2);
        extremes.setMissing(6);
        extremes.setMissing(10);
        check.same("extremes: fill", extremes.fill(), 3);
        check.same("between the least values", extremes.value(2), -1000000);
        check.same("between the least and the greatest", extremes.value(6), 0);
        check.same("between the greatest values", extremes.value(10), 1000000);
    }
}
