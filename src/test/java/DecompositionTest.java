/** Promises 16 to 23: steps (1) to (7), with numbers worked out by hand. */
public final class DecompositionTest {
    private static final Check check = new Check();

    public static void main(String[] args) {
        promise16FirstTrend();
        promise17Deviation();
        promises18To20WeightSpreadFactor();
        promises18To20WithoutRounds();
        promise20FactorsOfRatios();
        promise20WithoutAnyWeight();
        promise20WhereTheRatiosAddUpToNothing();
        promise21Adjusted();
        promises22And23TrendAndIrregular();
        promises22And23WhereTheTrendIsNegative();
        exceptionsOfAll();
        greatestValues();
        check.finish();
    }

    private static void promise16FirstTrend() {
        SeasonalAdjuster odd = Make.of(3, 0, 2, 1, 1, 2, 2, -7, 0, 0);
        check.row("firstTrend, odd period", odd::firstTrend, 1, 1, 2, -1, -2, -2);
        check.outOfBounds("odd: firstTrend(0)", () -> odd.firstTrend(0));
        check.outOfBounds("odd: firstTrend(6)", () -> odd.firstTrend(6));
        SeasonalAdjuster even = Make.of(2, 0, 2, 0, 1, 0, -1, 0, 3, 0);
        check.row("firstTrend, even period, halves away from 0", even::firstTrend, 1, 1, 0, -1, 1, 2);
        SeasonalAdjuster four = Make.of(4, 0, 2, 8, 1, 2, 3, 16, 1, 2, 3);
        check.row("firstTrend, period 4", four::firstTrend, 2, 5, 6);
        check.outOfBounds("four: firstTrend(1)", () -> four.firstTrend(1));
        check.outOfBounds("four: firstTrend(6)", () -> four.firstTrend(6));
    }

    private static void promise17Deviation() {
        check.row("deviation, additive", Make.spiked()::deviation, 1, -3, 3, -11, 18, -11, 3, -3);
        SeasonalAdjuster ratios = Make.of(2, 1, 2, 200, 100, 200, 100, 200, 100);
        check.row("deviation, multiplicative", ratios::deviation, 1, 6667, 13333, 6667, 13333);
        check.outOfBounds("deviation(0)", () -> ratios.deviation(0));
        check.outOfBounds("deviation(5)", () -> ratios.deviation(5));
        check.outOfBounds("deviation(min)", () -> ratios.deviation(Integer.MIN_VALUE));
    }

    private static void promises18To20WeightSpreadFactor() {
        SeasonalAdjuster x = Make.spiked();
        check.row("weight", x::weight, 1, 100, 100, 100, 67, 100, 100, 100);
        check.same("spread", x.spread(), 6);
        check.row("factor", x::factor, 0, 7, -7);
        check.outOfBounds("weight(0)", () -> x.weight(0));
        check.outOfBounds("weight(8)", () -> x.weight(8));
        check.outOfBounds("weight(max)", () -> x.weight(Integer.MAX_VALUE));
        x.setPeriod(4);
        check.isTrue("the factors follow a change", x.factor(3) != 7 && x.factor(2) != -7);
        x.undo();
        check.row("factor after undo", x::factor, 0, 7, -7);
    }

    // 5 * 35 / 28 is 6.25; the sum of the raw factors 8 and -7 leaves 1 / 2, so 1 goes off each.
    private static void promises18To20WithoutRounds() {
        SeasonalAdjuster x = Make.spiked();
        x.setRounds(0);
        check.row("no rounds: weight", x::weight, 1, 100, 100, 100, 100, 100, 100, 100);
        check.row("no rounds: factor", x::factor, 0, 7, -8);
        check.same("no rounds: spread", x.spread(), 6);
        check.same("no rounds: no outliers", x.outlierCount(), 0);
        x.setRounds(1);
        check.same("one round: weight(4)", x.weight(4), 67);
        check.row("one round: factor", x::factor, 0, 7, -7);
    }

    private static void promise20FactorsOfRatios() {
        SeasonalAdjuster x = Make.of(2, 1, 2, 200, 100, 200, 100, 200, 100);
        check.row("ratios: factor", x::factor, 0, 13333, 6667);
        check.same("ratios: spread", x.spread(), 0);
        SeasonalAdjuster steep = Make.of(2, 1, 0, 1, 1000000, 1, 1000000, 1);
        check.same("a factor is at least 1", steep.factor(0), 1);
        check.same("the other factor", steep.factor(1), 20000);
    }

    // Season 2 has the deviations 10 and 3 at the entries 2 and 5; both are so far from
    // their factor 7, with the spread 1, that they lose all weight.
    private static void promise20WithoutAnyWeight() {
        SeasonalAdjuster x = Make.of(3, 0, 1, -10, -10, 10, 0, -10, 0, 0, 0);
        check.row("W is 0: deviation", x::deviation, 1, -7, 10, 0, -7, 3, 0);
        check.row("W is 0: weight", x::weight, 1, 100, 0, 100, 100, 0, 100);
        check.row("W is 0: factor", x::factor, 0, 0, -7, 7);
        check.same("W is 0: spread", x.spread(), 1);
    }

    // Every moving average holds one of the spikes, so all other ratios are 0; the spikes,
    // each in a season of its own, lose their weight in the first round.
    private static void promise20WhereTheRatiosAddUpToNothing() {
        int[] values = new int[71];
        for (int t = 0; t < values.length; t++) {
            values[t] = t % 13 == 6 ? 1000000 : 1;
        }
        SeasonalAdjuster x = Make.of(12, 1, 1, values);
        for (int season = 0; season < 12; season++) {
            check.same("Z is 0: factor(" + season + ")", x.factor(season), 1);
        }
        check.same("Z is 0: weight of a spike", x.weight(19), 0);
        check.same("Z is 0: adjusted spike", x.adjusted(6), 10000000000L);
        check.same("Z is 0: outliers", x.outlierCount(), 5);

        // The ratio 10000 * 5 / 83334 is rounded to 1.
        for (int t = 0; t < values.length; t += 12) {
            x.set(t, 5);
        }
        check.same("Z is 1: factor(0)", x.factor(0), 120000);
        check.same("Z is 1: factor(1)", x.factor(1), 1);
    }

    private static void promise21Adjusted() {
        check.row("adjusted, additive", Make.spiked()::adjusted, 0, 3, 11, 3, 11, 33, 11, 3, 11, 3);
        SeasonalAdjuster x = Make.of(2, 1, 0, 10, 10, 1000, 10, 10, 10, 10, 10, 10);
        check.row("ratios: factor", x::factor, 0, 14373, 5627);
        check.row("adjusted, multiplicative", x::adjusted, 0, 7, 18, 696, 18, 7, 18, 7, 18, 7);
        check.outOfBounds("adjusted(9)", () -> x.adjusted(9));
        check.outOfBounds("adjusted(-1)", () -> x.adjusted(-1));
    }

    private static void promises22And23TrendAndIrregular() {
        SeasonalAdjuster x = Make.spiked();
        check.row("trend", x::trend, 0, 8, 7, 6, 15, 24, 15, 6, 7, 8);
        check.row("irregular", x::irregular, 0, -5, 4, -3, -4, 9, -4, -3, 4, -5);
        SeasonalAdjuster shortest = Make.of(2, 0, 0, 0, 0, 1000, 0, 0);
        check.row("shortest: adjusted", shortest::adjusted, 0, -375, 375, 625, 375, -375);
        check.row("shortest: trend", shortest::trend, 0, -124, 250, 624, 250, -124);
        check.row("shortest: irregular", shortest::irregular, 0, -251, 125, 1, 125, -251);
        check.outOfBounds("trend(5)", () -> shortest.trend(5));
        check.outOfBounds("trend(-1)", () -> shortest.trend(-1));
        check.outOfBounds("irregular(5)", () -> shortest.irregular(5));
        check.outOfBounds("irregular(min)", () -> shortest.irregular(Integer.MIN_VALUE));
    }

    private static void promises22And23WhereTheTrendIsNegative() {
        SeasonalAdjuster x = Make.of(2, 1, 0, 10, 10, 1000, 10, 10, 10, 10, 10, 10);
        check.row("negative trend: trend", x::trend, 0, -28, 185, 398);
        check.row("negative trend: irregular", x::irregular, 0, 10000, 973, 17487);
    }

    private static void exceptionsOfAll() {
        SeasonalAdjuster x = Make.spiked();
        x.setMissing(3);
        long before = x.digest();
        for (int entry : new int[] {-1, 2, 50}) {
            check.illegalState("firstTrend(" + entry + ")", () -> x.firstTrend(entry));
            check.illegalState("deviation(" + entry + ")", () -> x.deviation(entry));
            check.illegalState("weight(" + entry + ")", () -> x.weight(entry));
            check.illegalState("adjusted(" + entry + ")", () -> x.adjusted(entry));
            check.illegalState("trend(" + entry + ")", () -> x.trend(entry));
            check.illegalState("irregular(" + entry + ")", () -> x.irregular(entry));
        }
        check.illegalState("spread()", x::spread);
        check.illegalState("factor(1)", () -> x.factor(1));
        check.illegalArgument("factor(2)", () -> x.factor(2));
        check.illegalArgument("factor(-1)", () -> x.factor(-1));
        check.same("digest after all", x.digest(), before);
        x.fill();
        check.illegalArgument("factor(2) of a whole series", () -> x.factor(2));
        check.illegalArgument("factor(max)", () -> x.factor(Integer.MAX_VALUE));
    }

    // With values at both bounds nothing leaves 64 bits: the mean of the factors stays near 0.
    private static void greatestValues() {
        int[] values = new int[72];
        for (int t = 0; t < values.length; t++) {
            values[t] = t % 2 == 0 ? 1000000 : -1000000;
        }
        SeasonalAdjuster x = Make.of(2, 0, 5, values);
        check.row("bounds: factor", x::factor, 0, 1000000, -1000000);
        check.row("bounds: trend", x::trend, 0, 0, 0, 0);
        check.same("bounds: forecast", x.forecast(24), -1000000);
    }
}
