/**
 * The boundary cases of the sections SERIES, DECOMPOSITION, OUTLIERS AND RANKS and FORECAST.
 * The distances |e(t)| and the spread D behind a case are those that step (4) finds.
 */
public final class StepBoundsTest {
    private static final Check check = new Check();

    public static void main(String[] args) {
        firstSettings();
        decomposableOnlyFromTheLeastLength();
        decomposableOnlyWithoutGaps();
        stepOneCountsItsEndsOnce();
        stepThreeWithoutWeights();
        stepThreeRatioOfNothing();
        stepFourAtThreeHalvesOfTheSpread();
        stepFourAtFiveHalvesOfTheSpread();
        stepFourWithoutSpread();
        stepFourRounds();
        stepSixEnds();
        stepSevenAtTrendsRoundZero();
        outlierTies();
        rankTies();
        for (int period = 2; period <= 12; period++) {
            straightLine(period, ArgumentBoundsTest.shortest(period));
            straightLine(period, 72);
            pureSeasons(period, ArgumentBoundsTest.shortest(period));
            pureSeasons(period, 71);
            pureSeasons(period, 72);
        }
        check.finish();
    }

    private static void firstSettings() {
        SeasonalAdjuster x = new SeasonalAdjuster();
        for (int i = 0; i < 72; i++) {
            check.same("append", i % 2 == 0 ? x.append(i) : x.appendMissing(), i);
            check.same("size", x.size(), i + 1);
            check.same("days at first", x.setDays(i, 20), 20);
        }
        check.illegalState("a 73rd entry", () -> x.append(1));
        check.illegalState("a 73rd missing entry", x::appendMissing);
        check.same("room again", x.removeLast(), 71);
        check.same("the 72nd entry once more", x.append(5), 71);
        check.same("down to 71", x.removeLast(), 71);
        for (int left = 70; left >= 0; left--) {
            check.same("removeLast", x.removeLast(), left);
            check.same("size", x.size(), left);
        }
        check.illegalState("removeLast of nothing", x::removeLast);
    }

    private static void decomposableOnlyFromTheLeastLength() {
        int[] least = {0, 0, 5, 5, 8, 9, 12, 13, 16, 17, 20, 21, 24};
        for (int period = 2; period <= 12; period++) {
            decomposableFrom(least[period], period);
        }
        check.isTrue("an empty series", !new SeasonalAdjuster().canDecompose());
        SeasonalAdjuster x = Make.rising(8, 0);
        check.isTrue("8 entries, P = 4", x.canDecompose());
        x.setPeriod(5);
        check.isTrue("8 entries, P = 5", !x.canDecompose());
    }

    private static void decomposableFrom(int least, int period) {
        SeasonalAdjuster x = Make.rising(least - 1, 0);
        x.setPeriod(period);
        String series = "P = " + period + ": ";
        check.isTrue(series + "one entry too few", !x.canDecompose());
        check.illegalState(series + "spread of one too few", x::spread);
        check.illegalState(series + "firstTrend of one too few", () -> x.firstTrend(period / 2));
        x.append(least);
        check.isTrue(series + "as many as needed", x.canDecompose());
        check.same(series + "spread", x.spread(), 0);
        x.removeLast();
        check.isTrue(series + "one too few again", !x.canDecompose());
        x.undo();
        check.isTrue(series + "as many as needed again", x.canDecompose());
    }

    private static void decomposableOnlyWithoutGaps() {
        for (int length : new int[] {5, 72}) {
            for (int gap = 0; gap < length; gap++) {
                SeasonalAdjuster x = Make.rising(length, 0);
                x.setPeriod(2);
                x.setMissing(gap);
                check.isTrue(gap + " is missing of " + length, !x.canDecompose());
                x.set(gap, 1);
                check.isTrue(gap + " is there of " + length, x.canDecompose());
            }
        }
    }

    // A spike as high as the divisor shows how often each entry counts.
    private static void stepOneCountsItsEndsOnce() {
        for (int period = 2; period <= 12; period++) {
            int half = period / 2;
            boolean even = period % 2 == 0;
            for (int distance = 0; distance <= half + 1; distance++) {
                int[] values = new int[71];
                values[35] = even ? 2 * period : period;
                SeasonalAdjuster x = Make.of(period, 0, 0, values);
                int due = distance > half ? 0 : even && distance < half ? 2 : 1;
                String series = "P = " + period + ", distance " + distance;
                check.same(series + " above", x.firstTrend(35 - distance), due);
                check.same(series + " below", x.firstTrend(35 + distance), due);
            }
        }
    }

    private static void stepThreeWithoutWeights() {
        // Season 2 has the weights 0 and 1 and the ratios 6667 and 12500: W is 1, not 0.
        SeasonalAdjuster least = Make.of(4, 1, 1, 2, 15, 4, 3, 5, 5, 5, 2, 5, 5, 5);
        check.row("W is 1: weight", least::weight, 2, 0, 100, 100, 100, 1, 100, 100);
        check.row("W is 1: factor", least::factor, 0, 11765, 11765, 11765, 4706);
        // Season 2 has the weights 0 and 0 and the ratios 16667 and 10000 as season 0: W is 0.
        SeasonalAdjuster none = Make.of(3, 1, 1, 1, 1, 2, 5, 3, 2, 3, 3, 4);
        check.row("W is 0: weight", none::weight, 1, 100, 100, 0, 100, 100, 0, 100);
        check.row("W is 0: factor", none::factor, 0, 13334, 10000, 6667);
    }

    // The ratios of the ones beside the spikes are 10000 / 500001 and 10000 / 10001.
    private static void stepThreeRatioOfNothing() {
        SeasonalAdjuster nothing = Make.of(2, 1, 0, 1, 1000000, 1, 1000000, 1);
        check.row("raw factor 0: deviation", nothing::deviation, 1, 20000, 0, 20000);
        check.row("raw factor 0: factor", nothing::factor, 0, 1, 20000);
        check.row("raw factor 0: adjusted", nothing::adjusted, 0, 10000, 500000, 10000, 500000, 10000);
        SeasonalAdjuster little = Make.of(2, 1, 0, 1, 20000, 1, 20000, 1);
        check.row("raw factor 1: deviation", little::deviation, 1, 19998, 1, 19998);
        check.row("raw factor 1: factor", little::factor, 0, 1, 19999);
    }

    private static void stepFourAtThreeHalvesOfTheSpread() {
        // The distances are 1, 1 and 0, and D is 1; then 2, 4 and 6, and D is 5: all below 3D.
        SeasonalAdjuster near = Make.of(2, 0, 1, 0, 3, 3, 3, 2);
        check.row("just below 3D: weight", near::weight, 1, 100, 100, 100);
        SeasonalAdjuster below = Make.of(2, 0, 1, 8, 4, 36, 8, -1);
        check.row("between 2D and 3D: weight", below::weight, 1, 100, 100, 100);
        // The distances are 2, 1 and 0, and D is 1: 100 / 2.
        SeasonalAdjuster next = Make.of(2, 0, 1, 4, 0, 0, 5, 4);
        check.row("3D + 1: weight", next::weight, 1, 50, 100, 100);
        // The distances are 3, 0 and 2, and D is 2: 2a = 3D keeps all its weight.
        SeasonalAdjuster equal = Make.of(2, 0, 1, 3, 0, 0, 9, 1);
        check.row("2a = 3D: weight", equal::weight, 1, 100, 100, 100);
        check.same("2a = 3D: outlierCount", equal.outlierCount(), 0);
        // The distances are 275, 110 and 54, and D is 183: 550 is above 549, but 36500 / 366 is 99.7.
        SeasonalAdjuster above = Make.of(2, 0, 1, -157, 255, 449, -680, -707);
        check.row("just above 3D: weight", above::weight, 1, 100, 100, 100);
        check.same("just above 3D: outlierCount", above.outlierCount(), 0);
        check.outOfBounds("just above 3D: outlier(0)", () -> above.outlier(0));
        // The distances are 11, 21 and 53, and D is 35: 6900 / 70 is 98.6.
        SeasonalAdjuster farther = Make.of(2, 0, 1, 79, 80, -93, -58, 60);
        check.row("above 3D: weight", farther::weight, 1, 100, 100, 99);
        check.same("above 3D: outlierCount", farther.outlierCount(), 1);
        check.same("above 3D: outlier(0)", farther.outlier(0), 3);
    }

    private static void stepFourAtFiveHalvesOfTheSpread() {
        // The distances are 0, 2, 1, 1 and 5, and D is 2: 2a = 5D loses all weight.
        SeasonalAdjuster equal = Make.of(2, 0, 1, 3, 5, -2, 5, 0, -3, 5);
        check.row("2a = 5D: weight", equal::weight, 1, 100, 100, 100, 100, 0);
        // The distance is 7445, and D is 2982: 2000 / 5964 is 0.3.
        SeasonalAdjuster below = Make.of(2, 1, 1, 5, 15, 300, 3, 36, 54);
        check.row("just below 5D: weight", below::weight, 1, 100, 100, 100, 0);
        check.same("just below 5D: outlierCount", below.outlierCount(), 1);
        // The distance is 1522, and D is 612: 1600 / 1224 is 1.3.
        SeasonalAdjuster nearer = Make.of(2, 1, 1, 2, 3, 1, 5, 1, 5);
        check.row("below 5D: weight", nearer::weight, 1, 1, 100, 100, 100);
    }

    private static void stepFourWithoutSpread() {
        SeasonalAdjuster flat = Make.of(2, 0, 5, 7, 7, 7, 7, 7);
        check.same("D is 0: spread", flat.spread(), 0);
        check.row("D is 0, all distances 0: weight", flat::weight, 1, 100, 100, 100);
        check.same("D is 0, all distances 0: outlierCount", flat.outlierCount(), 0);
        // The distances are 1, 0 and 0: 5 / 12 is rounded to 0, and 2 is above 3D and 5D.
        SeasonalAdjuster bumpy = Make.of(2, 0, 1, 1, 2, 3, 1, 3);
        check.same("D is 0: spread", bumpy.spread(), 0);
        check.row("D is 0, a distance 1: weight", bumpy::weight, 1, 0, 100, 100);
        check.same("D is 0, a distance 1: outlier(0)", bumpy.outlier(0), 1);
        SeasonalAdjuster ratios = Make.of(3, 1, 1, 3, 2, 5, 2, 1);
        check.same("ratios, D is 0: spread", ratios.spread(), 0);
        check.row("ratios, D is 0: weight", ratios::weight, 1, 100, 0, 100);
    }

    // The weight of entry 3 goes to and fro with each round. Computed once more, from the
    // last spread, it would be the one of the next round.
    private static void stepFourRounds() {
        int[] weights = {100, 83, 100, 83, 100, 83};
        int[] factors = {2, 1, 2, 1, 2, 1};
        int[] spreads = {3, 4, 3, 4, 3, 4};
        for (int rounds = 0; rounds <= 5; rounds++) {
            SeasonalAdjuster x = Make.of(2, 0, rounds, 0, 11, 14, 14, -16);
            check.row(rounds + " rounds: weight", x::weight, 1, 100, 100, weights[rounds]);
            check.row(rounds + " rounds: factor", x::factor, 0, -2, factors[rounds]);
            check.same(rounds + " rounds: spread", x.spread(), spreads[rounds]);
            check.same(rounds + " rounds: outlierCount", x.outlierCount(), weights[rounds] < 100 ? 1 : 0);
        }
        SeasonalAdjuster spiked = Make.spiked();
        spiked.setRounds(0);
        check.row("no rounds: weight", spiked::weight, 1, 100, 100, 100, 100, 100, 100, 100);
        check.same("no rounds: outlierCount", spiked.outlierCount(), 0);
    }

    // With 5 entries one is filtered by five terms, with 6 entries two are.
    private static void stepSixEnds() {
        SeasonalAdjuster five = Make.of(2, 0, 0, -5, 0, 3, 0, 4);
        check.row("n = 5: adjusted", five::adjusted, 0, -6, 1, 2, 1, 3);
        check.row("n = 5: trend", five::trend, 0, -4, -1, 2, 2, 2);
        check.row("n = 5: irregular", five::irregular, 0, -2, 2, 0, -1, 1);
        SeasonalAdjuster six = Make.of(2, 0, 0, 0, 4, 0, 0, 8, 0);
        check.row("n = 6: adjusted", six::adjusted, 0, -1, 5, -1, 1, 7, 1);
        check.row("n = 6: trend", six::trend, 0, 3, 2, 1, 2, 4, 6);
        check.row("n = 6: irregular", six::irregular, 0, -4, 3, -2, -1, 3, -5);
    }

    private static void stepSevenAtTrendsRoundZero() {
        SeasonalAdjuster below = Make.of(2, 1, 0, 3, 9, 3, 2, 1);
        check.row("trend -1: adjusted", below::adjusted, 0, 4, 7, 4, 2, 1);
        check.row("trend -1: trend", below::trend, 0, 7, 6, 5, 2, -1);
        check.row("trend -1: irregular", below::irregular, 0, 5714, 11667, 8000, 10000, 10000);
        SeasonalAdjuster zero = Make.of(2, 1, 1, 1, 2, 2, 9, 3);
        check.row("trend 0: adjusted", zero::adjusted, 0, 2, 1, 4, 6, 5);
        check.row("trend 0: trend", zero::trend, 0, 0, 2, 4, 5, 6);
        check.row("trend 0: irregular", zero::irregular, 0, 10000, 5000, 10000, 12000, 8333);
        SeasonalAdjuster above = Make.of(2, 1, 0, 1, 3, 4, 1, 5);
        check.row("trend 1: adjusted", above::adjusted, 0, 1, 4, 3, 1, 4);
        check.row("trend 1: trend", above::trend, 0, 3, 3, 3, 2, 1);
        check.row("trend 1: irregular", above::irregular, 0, 3333, 13333, 10000, 5000, 40000);
    }

    private static void outlierTies() {
        // Both weigh 90; the distances are 3333 at entry 1 and 3334 at entry 3.
        SeasonalAdjuster farther = Make.of(2, 1, 1, 3, 3, 4, 1, 4, 1);
        check.row("equal weights: weight", farther::weight, 1, 90, 100, 90, 100);
        check.row("equal weights, the farther first: outlier", farther::outlier, 0, 3, 1);
        // Both weigh 50, and both distances are 2.
        SeasonalAdjuster lower = Make.of(2, 0, 1, 0, -5, 2, 1, 2, 4);
        check.row("all equal: weight", lower::weight, 1, 50, 100, 100, 50);
        check.row("all equal, the lower first: outlier", lower::outlier, 0, 1, 4);
    }

    private static void rankTies() {
        for (int period = 2; period <= 12; period++) {
            SeasonalAdjuster flat = Make.rising(72, 0);
            flat.setPeriod(period);
            for (int rank = 0; rank < period; rank++) {
                check.same("P = " + period + ", equal factors: seasonOfRank", flat.seasonOfRank(rank), rank);
            }
        }
        SeasonalAdjuster four = Make.of(4, 0, 2, 30, 10, 40, 20, 30, 10, 40, 20, 30, 10, 40, 20);
        check.row("no equal factors: factor", four::factor, 0, 5, -15, 15, -5);
        check.row("no equal factors: seasonOfRank", four::seasonOfRank, 0, 2, 0, 3, 1);
        SeasonalAdjuster last = Make.of(3, 0, 0, 0, 0, 9, 0, 0, 9);
        check.row("two equal behind the greatest: factor", last::factor, 0, -3, -3, 6);
        check.row("two equal behind the greatest: seasonOfRank", last::seasonOfRank, 0, 2, 0, 1);
        SeasonalAdjuster first = Make.of(3, 0, 0, 9, 9, 0, 9, 9, 0);
        check.row("two equal before the least: seasonOfRank", first::seasonOfRank, 0, 0, 1, 2);
        // The same object again, with the greatest factor in another season.
        for (int greatest = 1; greatest <= 2; greatest++) {
            for (int t = 0; t < 6; t++) {
                first.set(t, t % 3 == greatest ? 9 : 0);
            }
            check.row("after a change: seasonOfRank", first::seasonOfRank, 0, greatest, 0, 3 - greatest);
        }
    }

    // All averages of a straight line lie on it, those of the ends too.
    private static void straightLine(int period, int length) {
        SeasonalAdjuster x = Make.rising(length, 0);
        x.setPeriod(period);
        String series = "line, P = " + period + ", n = " + length + ": ";
        int half = period / 2;
        for (int t = 0; t < length; t++) {
            check.same(series + "adjusted", x.adjusted(t), t + 1);
            check.same(series + "trend", x.trend(t), t + 1);
            check.same(series + "irregular", x.irregular(t), 0);
        }
        for (int t = half; t <= length - 1 - half; t++) {
            check.same(series + "firstTrend", x.firstTrend(t), t + 1);
        }
        for (int k = 1; k <= 24; k++) {
            check.same(series + "forecast(" + k + ")", x.forecast(k), length + k);
        }
    }

    // Factors that add up to 0 and nothing else: each forecast has the season of its entry.
    private static void pureSeasons(int period, int length) {
        int[] values = new int[length];
        for (int t = 0; t < length; t++) {
            values[t] = factorOf(t, period);
        }
        SeasonalAdjuster x = Make.of(period, 0, 5, values);
        String series = "seasons, P = " + period + ", n = " + length + ": ";
        for (int season = 0; season < period; season++) {
            check.same(series + "factor", x.factor(season), factorOf(season, period));
            check.same(series + "seasonOfRank", x.seasonOfRank(season), period - 1 - season);
        }
        for (int t = 0; t < length; t++) {
            check.same(series + "adjusted", x.adjusted(t), 0);
        }
        for (int k = 1; k <= 24; k++) {
            check.same(series + "forecast(" + k + ")", x.forecast(k), factorOf(length - 1 + k, period));
        }
    }

    private static int factorOf(int entry, int period) {
        return 1000 * (2 * (entry % period) - (period - 1));
    }
}
