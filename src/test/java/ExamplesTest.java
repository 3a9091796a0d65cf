/** The four examples of the document, call by call. */
public final class ExamplesTest {
    public static void main(String[] args) {
        Check check = new Check();
        risingSeries(check);
        filledValue(check);
        outlier(check);
        exceptions(check);
        check.finish();
    }

    private static void risingSeries(Check check) {
        SeasonalAdjuster x = new SeasonalAdjuster();
        check.same("1: setPeriod(2)", x.setPeriod(2), 4);
        check.same("1: append(10)", x.append(10), 0);
        check.same("1: append(4)", x.append(4), 1);
        check.same("1: append(12)", x.append(12), 2);
        check.same("1: append(6)", x.append(6), 3);
        check.same("1: append(14)", x.append(14), 4);
        check.same("1: append(8)", x.append(8), 5);
        check.same("1: firstTrend(1)", x.firstTrend(1), 8);
        check.same("1: factor(0)", x.factor(0), 4);
        check.same("1: factor(1)", x.factor(1), -3);
        check.same("1: adjusted(0)", x.adjusted(0), 6);
        check.same("1: trend(0)", x.trend(0), 6);
        check.same("1: irregular(2)", x.irregular(2), 0);
        check.same("1: forecast(1)", x.forecast(1), 16);
        check.same("1: forecast(2)", x.forecast(2), 10);
    }

    private static void filledValue(Check check) {
        SeasonalAdjuster x = new SeasonalAdjuster();
        check.same("2: setPeriod(2)", x.setPeriod(2), 4);
        check.same("2: append(5)", x.append(5), 0);
        check.same("2: appendMissing()", x.appendMissing(), 1);
        check.same("2: append(7)", x.append(7), 2);
        check.same("2: append(2)", x.append(2), 3);
        check.same("2: append(9)", x.append(9), 4);
        check.isTrue("2: not canDecompose()", !x.canDecompose());
        check.same("2: fill()", x.fill(), 1);
        check.same("2: value(1)", x.value(1), 2);
        check.isTrue("2: canDecompose()", x.canDecompose());
        check.same("2: factor(0)", x.factor(0), 3);
    }

    private static void outlier(Check check) {
        SeasonalAdjuster x = new SeasonalAdjuster();
        check.same("3: setPeriod(2)", x.setPeriod(2), 4);
        int[] values = {10, 4, 10, 4, 40, 4, 10, 4, 10};
        for (int i = 0; i < values.length; i++) {
            check.same("3: append(" + values[i] + ")", x.append(values[i]), i);
        }
        check.same("3: weight(4)", x.weight(4), 67);
        check.same("3: outlierCount()", x.outlierCount(), 1);
        check.same("3: outlier(0)", x.outlier(0), 4);
        check.same("3: factor(0)", x.factor(0), 7);
    }

    private static void exceptions(Check check) {
        SeasonalAdjuster x = new SeasonalAdjuster();
        check.same("4: append(3)", x.append(3), 0);
        check.illegalState("4: factor(0)", () -> x.factor(0));
        check.illegalArgument("4: factor(4)", () -> x.factor(4));
        check.same("4: setMode(1)", x.setMode(1), 0);
        check.illegalArgument("4: append(0)", () -> x.append(0));
        check.outOfBounds("4: set(1, 5)", () -> x.set(1, 5));
        check.illegalArgument("4: setPeriod(13)", () -> x.setPeriod(13));
    }
}
