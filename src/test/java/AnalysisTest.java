/** Promises 24 to 29: outliers, ranks, forecasts and the effect of the days. */
public final class AnalysisTest {
    private static final Check check = new Check();

    public static void main(String[] args) {
        promises24And25Outliers();
        promise25Order();
        promise26SeasonOfRank();
        promise27Forecast();
        promise27ForecastOfRatios();
        promise28DaysEffect();
        promise29RemoveDays();
        promise29Bounds();
        exceptionsWithoutDecomposition();
        check.finish();
    }

    private static void promises24And25Outliers() {
        SeasonalAdjuster x = Make.spiked();
        check.same("outlierCount", x.outlierCount(), 1);
        check.same("outlier(0)", x.outlier(0), 4);
        check.outOfBounds("outlier(1)", () -> x.outlier(1));
        check.outOfBounds("outlier(-1)", () -> x.outlier(-1));
        check.outOfBounds("outlier(max)", () -> x.outlier(Integer.MAX_VALUE));
        SeasonalAdjuster calm = Make.of(2, 0, 2, 5, 5, 5, 5, 5, 5);
        check.same("outlierCount of none", calm.outlierCount(), 0);
        check.outOfBounds("outlier(0) of none", () -> calm.outlier(0));
    }

    private static void promise25Order() {
        SeasonalAdjuster distance = Make.of(3, 0, 1, -10, -10, 10, 0, -10, 0, 0, 0);
        check.same("of equal weights: the count", distance.outlierCount(), 2);
        check.same("of equal weights the farther first", distance.outlier(0), 5);
        check.same("of equal weights the nearer last", distance.outlier(1), 2);

        // Step (4) finds the distances 45 at entry 16 and 20 at 15 and 17, and the spread 10.
        int[] values = new int[24];
        values[6] = 20;
        values[16] = 100;
        SeasonalAdjuster x = Make.of(2, 0, 1, values);
        check.same("three outliers", x.outlierCount(), 3);
        check.same("the least weight first", x.outlier(0), 16);
        check.same("its weight", x.weight(16), 0);
        check.same("of equal ones the lower first", x.outlier(1), 15);
        check.same("its weight", x.weight(15), 50);
        check.same("of equal ones the higher last", x.outlier(2), 17);
        check.same("its weight", x.weight(17), 50);
        check.same("the spread of the last factors", x.spread(), 8);
    }

    private static void promise26SeasonOfRank() {
        SeasonalAdjuster x = Make.of(4, 0, 2, 1, 9, 5, 9, 1, 9, 5, 9, 1, 9, 5, 9);
        check.same("rank 0: of equal factors the lower season", x.seasonOfRank(0), 1);
        check.same("rank 1", x.seasonOfRank(1), 3);
        check.same("rank 2", x.seasonOfRank(2), 2);
        check.same("rank 3", x.seasonOfRank(3), 0);
        check.illegalArgument("rank 4", () -> x.seasonOfRank(4));
        check.illegalArgument("rank -1", () -> x.seasonOfRank(-1));
        check.illegalArgument("rank max", () -> x.seasonOfRank(Integer.MAX_VALUE));
    }

    // T is 8 at the end and 6 two entries before it.
    private static void promise27Forecast() {
        SeasonalAdjuster x = Make.spiked();
        check.same("forecast(1)", x.forecast(1), 9 - 7);
        check.same("forecast(2)", x.forecast(2), 10 + 7);
        check.same("forecast(3)", x.forecast(3), 11 - 7);
        check.same("forecast(24)", x.forecast(24), 32 + 7);
        for (int wrong : new int[] {0, 25, -1, Integer.MIN_VALUE, Integer.MAX_VALUE}) {
            check.illegalArgument("forecast(" + wrong + ")", () -> x.forecast(wrong));
        }
    }

    private static void promise27ForecastOfRatios() {
        SeasonalAdjuster x = Make.of(2, 1, 2, 200, 100, 200, 100, 200, 100);
        check.same("ratios: forecast(1)", x.forecast(1), 200);
        check.same("ratios: forecast(2)", x.forecast(2), 100);
        check.same("ratios: forecast(24)", x.forecast(24), 100);
    }

    // With 21 days at entry 4, v is 8 there and -1 elsewhere: 9000 * (72 + 16) / 72.
    private static void promise28DaysEffect() {
        SeasonalAdjuster x = Make.spiked();
        check.illegalState("equal days", x::daysEffect);
        x.setDays(4, 21);
        long before = x.digest();
        check.same("daysEffect", x.daysEffect(), 11000);
        check.same("it changes nothing", x.digest(), before);
        x.setDays(4, 19);
        check.same("daysEffect, a day less", x.daysEffect(), -11000);
        x.setMode(1);
        check.illegalState("multiplicative", x::daysEffect);
        x.setMode(0);
        for (int t = 0; t < 9; t++) {
            x.setDays(t, 0);
        }
        check.illegalState("no days at all", x::daysEffect);
    }

    private static void promise29RemoveDays() {
        SeasonalAdjuster x = Make.spiked();
        long calm = x.digest();
        check.illegalState("removeDays, equal days", x::removeDays);
        check.same("digest after it", x.digest(), calm);
        x.setDays(4, 21);
        check.same("removeDays", x.removeDays(), 9);
        int[] due = {11, 5, 11, 5, 30, 5, 11, 5, 11};
        for (int t = 0; t < due.length; t++) {
            check.same("value(" + t + ") after removeDays", x.value(t), due[t]);
        }
        check.same("removeDays is undoable", x.undo(), 3);
        check.same("value(4) is back", x.value(4), 40);
        check.same("daysEffect is back", x.daysEffect(), 11000);
        x.setMode(1);
        check.illegalState("removeDays, multiplicative", x::removeDays);

        SeasonalAdjuster flat = Make.of(2, 0, 2, 7, 7, 7, 7, 7);
        flat.setDays(0, 3);
        check.same("removeDays of no effect", flat.removeDays(), 0);
        check.same("it is saved all the same", flat.undo(), 3);
    }

    // As before, but the odd entries stand at a bound, so they cannot move on.
    private static void promise29Bounds() {
        SeasonalAdjuster top = Make.of(2, 0, 2, 999010, 1000000, 999010, 1000000, 999040, 1000000, 999010, 1000000,
                999010);
        top.setDays(4, 21);
        check.same("top: removeDays", top.removeDays(), 5);
        check.same("top: value(1)", top.value(1), 1000000);
        check.same("top: value(0)", top.value(0), 999011);
        check.same("top: value(4)", top.value(4), 999030);
        SeasonalAdjuster bottom = Make.of(2, 0, 2, -999010, -1000000, -999010, -1000000, -999040, -1000000, -999010,
                -1000000, -999010);
        bottom.setDays(4, 21);
        check.same("bottom: removeDays", bottom.removeDays(), 5);
        check.same("bottom: value(1)", bottom.value(1), -1000000);
        check.same("bottom: value(0)", bottom.value(0), -999011);
        check.same("bottom: value(4)", bottom.value(4), -999030);
    }

    private static void exceptionsWithoutDecomposition() {
        SeasonalAdjuster x = Make.of(2, 0, 2, 1, 2, 3, 4);
        x.setDays(0, 5);
        long before = x.digest();
        check.illegalState("outlierCount()", x::outlierCount);
        check.illegalState("outlier(0)", () -> x.outlier(0));
        check.illegalState("outlier(-1)", () -> x.outlier(-1));
        check.illegalState("seasonOfRank(0)", () -> x.seasonOfRank(0));
        check.illegalArgument("seasonOfRank(2)", () -> x.seasonOfRank(2));
        check.illegalArgument("seasonOfRank(-1)", () -> x.seasonOfRank(-1));
        check.illegalState("forecast(1)", () -> x.forecast(1));
        check.illegalArgument("forecast(0)", () -> x.forecast(0));
        check.illegalArgument("forecast(25)", () -> x.forecast(25));
        check.illegalState("daysEffect()", x::daysEffect);
        check.illegalState("removeDays()", x::removeDays);
        check.same("digest after all", x.digest(), before);
    }
}
