/**
 * The section ROUNDING, at every division of the document: halves go to the greater
 * absolute value, below and above 0, and what is nearer to one side goes there. The
 * quotients that matter are written behind each case.
 */
public final class RoundingTest {
    private static final Check check = new Check();

    public static void main(String[] args) {
        firstTrend();
        deviationOfRatios();
        rawFactors();
        rawFactorsWithoutWeight();
        meanOfTheFactors();
        factorsOfRatios();
        spread();
        weights();
        adjustedRatios();
        trendOfFive();
        trendOfThree();
        irregularRatios();
        forecastTrend();
        forecastOfRatios();
        daysEffect();
        removeDays();
        fill();
        check.finish();
    }

    private static void firstTrend() {
        // 7, 5, 3, 2 and 1 are divided by 4, and the same below 0.
        SeasonalAdjuster above = Make.of(2, 0, 0, 1, 2, 2, -1, 3, -3, 4);
        check.row("P = 2, above 0: firstTrend", above::firstTrend, 1, 2, 1, 1, 1, 0);
        SeasonalAdjuster below = Make.of(2, 0, 0, -1, -2, -2, 1, -3, 3, -4);
        check.row("P = 2, below 0: firstTrend", below::firstTrend, 1, -2, -1, -1, -1, 0);
        // 1, 2, 1, -1, -2 and 0 are divided by 3.
        SeasonalAdjuster odd = Make.of(3, 0, 0, 0, 0, 1, 1, -1, -1, 0, 1);
        check.row("P = 3: firstTrend", odd::firstTrend, 1, 0, 1, 0, 0, -1, 0);
        // The least series of P = 12 has 24 entries; an end counts once: 11 / 24, then 12 / 24.
        int[] values = new int[24];
        values[0] = 11;
        check.same("P = 12: 11 / 24", Make.of(12, 0, 0, values).firstTrend(6), 0);
        values[0] = 12;
        check.same("P = 12: 12 / 24", Make.of(12, 0, 0, values).firstTrend(6), 1);
        values[0] = -12;
        check.same("P = 12: -12 / 24", Make.of(12, 0, 0, values).firstTrend(6), -1);
        // Of P = 11 it has 21: 5 / 11, then 6 / 11.
        int[] fewer = new int[21];
        fewer[0] = 5;
        check.same("P = 11: 5 / 11", Make.of(11, 0, 0, fewer).firstTrend(5), 0);
        fewer[0] = -6;
        check.same("P = 11: -6 / 11", Make.of(11, 0, 0, fewer).firstTrend(5), -1);
    }

    // The first trend is 32 throughout: 312.5, 19687.5, 312.5.
    private static void deviationOfRatios() {
        SeasonalAdjuster x = Make.of(2, 1, 0, 63, 1, 63, 1, 63);
        check.row("deviation", x::deviation, 1, 313, 19688, 313);
    }

    private static void rawFactors() {
        // Season 1 has the deviations 0 and -1: -0.5; season 0 has 1, so Z is 0.
        SeasonalAdjuster below = Make.of(2, 0, 0, 2, 3, 3, 0, 2);
        check.row("raw -0.5: factor", below::factor, 0, 1, -1);
        // Season 1 has -1 and 2: 0.5; season 0 has -1.
        SeasonalAdjuster above = Make.of(2, 0, 0, 5, 1, 0, 4, 0);
        check.row("raw 0.5: factor", above::factor, 0, -1, 1);
        // With weights 90 and 100: (90 * 10000 + 90 * 3333) / 180 is 6666.5.
        SeasonalAdjuster weighted = Make.of(2, 1, 1, 3, 3, 4, 1, 4, 1);
        check.row("weighted: weight", weighted::weight, 1, 90, 100, 90, 100);
        check.row("weighted: factor", weighted::factor, 0, 13333, 6667);
    }

    // Seasons without any weight: -0.5 is the mean of -4 and 3, and 13333.5 of 16667 and 10000.
    private static void rawFactorsWithoutWeight() {
        SeasonalAdjuster below = Make.of(4, 0, 2, -4, 5, 5, -1, 0, 3, -5, -4, 3, -2);
        check.row("W is 0: deviation", below::deviation, 2, 3, -3, -1, 4, -4, -3);
        check.row("W is 0: weight", below::weight, 2, 0, 100, 100, 100, 0, 100);
        check.row("W is 0: factor", below::factor, 0, -1, 4, -1, -3);
        SeasonalAdjuster above = Make.of(3, 1, 1, 1, 1, 2, 5, 3, 2, 3, 3, 4);
        check.row("ratios, W is 0: deviation", above::deviation, 1, 10000, 6667, 16667, 10000, 6667, 10000, 10000);
        check.row("ratios, W is 0: weight", above::weight, 1, 100, 100, 0, 100, 100, 0, 100);
        check.row("ratios, W is 0: factor", above::factor, 0, 13334, 10000, 6667);
    }

    private static void meanOfTheFactors() {
        // The raw factors 0 and -1 leave -1 / 2, the raw factors 0 and 1 leave 1 / 2.
        check.row("Z / P is -0.5: factor", Make.of(2, 0, 0, 3, 1, 1, 0, 1)::factor, 0, 1, 0);
        check.row("Z / P is 0.5: factor", Make.of(2, 0, 0, 2, 5, 5, 4, 1)::factor, 0, -1, 0);
    }

    // The raw factors 3333, 8000 and 16667: 30000 * raw / 28000 is 3571.07, 8571.4 and 17857.5.
    private static void factorsOfRatios() {
        check.row("factor", Make.of(3, 1, 0, 5, 4, 5, 1, 2)::factor, 0, 3571, 8571, 17858);
    }

    // 5 * 4242 / 12 is 1767.5; 5 * 3 / 12 is 1.25 and 5 * 1 / 12 is 0.4.
    private static void spread() {
        check.same("1767.5", Make.of(2, 1, 0, 3, 2, 3, 5, 5).spread(), 1768);
        check.same("1.25", Make.of(2, 0, 0, 3, 1, 1, 0, 1).spread(), 1);
        check.same("0.4", Make.of(2, 0, 0, 2, 3, 3, 0, 2).spread(), 0);
    }

    private static void weights() {
        // The second step (4) finds the distance 5889 and the spread 2600: 122200 / 5200 is 23.5.
        check.same("23.5", Make.of(2, 1, 2, 3, 20, 3, 14, 19).weight(3), 24);
        // The distance 53 and the spread 35: 6900 / 70 is 98.6.
        check.same("98.6", Make.of(2, 0, 1, 79, 80, -93, -58, 60).weight(3), 99);
        // The distance 1522 and the spread 612: 1600 / 1224 is 1.3.
        check.same("1.3", Make.of(2, 1, 1, 2, 3, 1, 5, 1, 5).weight(1), 1);
    }

    // The factors are 8000 and 12000: 6.25, 2.5, 2.5, 2.5, 5.
    private static void adjustedRatios() {
        check.row("adjusted", Make.of(2, 1, 0, 5, 3, 2, 3, 4)::adjusted, 0, 6, 3, 3, 3, 5);
    }

    // -168500 and 71500 are divided by 1000.
    private static void trendOfFive() {
        check.same("-168.5", Make.of(2, 0, 0, 352, -250, 14, -202, 676).trend(2), -169);
        check.same("71.5", Make.of(2, 0, 0, 70, 41, 82, 35, -82).trend(2), 72);
    }

    private static void trendOfThree() {
        // The adjusted series is -6, 1, 2, 1, 3: -2 / 4 at entry 1, 7 / 4 at entry 3.
        SeasonalAdjuster below = Make.of(2, 0, 0, -5, 0, 3, 0, 4);
        check.row("-0.5: trend", below::trend, 0, -4, -1, 2, 2, 2);
        // It is 3, 2, 3, 5, 5: 10 / 4 and 18 / 4.
        SeasonalAdjuster above = Make.of(2, 1, 0, 3, 2, 3, 5, 5);
        check.row("2.5 and 4.5: trend", above::trend, 0, 3, 3, 3, 5, 7);
    }

    // At the last entry 10000 * 51 / 32 is 15937.5, at entry 3 it is 10000 * 5 / 16 = 3125.
    private static void irregularRatios() {
        check.row("irregular", Make.of(2, 1, 0, 1, 5, 1, 8, 16)::irregular, 0, 5000, 10000, 10000, 3125, 15938);
    }

    // k * (T(7) - T(3)) is computed first, and then divided by 4.
    private static void forecastTrend() {
        // T(7) - T(3) is 5 - 2: 3 / 4, 6 / 4, 9 / 4, 12 / 4.
        SeasonalAdjuster rising = Make.of(4, 0, 0, 3, 1, 1, 2, 1, 4, 3, 3);
        check.row("rising: trend", rising::trend, 3, 2, 2, 3, 4, 5);
        check.row("rising: trend of the forecast", k -> rising.forecast(k) - rising.factor((7 + k) % 4), 1, 6, 7, 7, 8);
        // It is 1 - 3: -2 / 4, -4 / 4, -6 / 4, -8 / 4.
        SeasonalAdjuster falling = Make.of(4, 0, 0, 2, 3, 4, 3, 1, 1, 1, 3);
        check.row("falling: trend", falling::trend, 3, 3, 2, 1, 1, 1);
        check.row("falling: trend of the forecast", k -> falling.forecast(k) - falling.factor((7 + k) % 4), 1,
                0, 0, -1, -1);
    }

    private static void forecastOfRatios() {
        // u is 1, 0, -1, -2, -3 and the factors are 12500 and 7500 in turn: -1.5 at k = 4.
        SeasonalAdjuster below = Make.of(2, 1, 0, 2, 5, 3, 5, 1);
        check.row("below 0: forecast", below::forecast, 1, 1, 0, -1, -2, -4);
        // u is 7, 8, 9 and so on, the factors are 7500 and 12500 in turn: 12.5 and 17.5 at k = 4 and 8.
        SeasonalAdjuster above = Make.of(2, 1, 0, 2, 1, 5, 5, 3);
        check.row("above 0: forecast", above::forecast, 1, 5, 10, 7, 13, 8, 15, 10, 18);
    }

    // v is 16 and four times -4, or -4, .. 16, -4: 312.5 is 100000 / 320 and 187.5 is 240000 / 1280.
    private static void daysEffect() {
        SeasonalAdjuster below = Make.of(2, 0, 0, 3, 4, 2, 4, 4);
        below.setDays(3, 24);
        check.row("-312.5: irregular", below::irregular, 0, 1, 0, 0, -1, 0);
        check.same("-312.5", below.daysEffect(), -313);
        SeasonalAdjuster above = Make.of(2, 0, 0, 4, 1, 3, 3, 4);
        above.setDays(0, 28);
        check.row("187.5: irregular", above::irregular, 0, 1, -1, 0, 0, -1);
        check.same("187.5", above.daysEffect(), 188);
    }

    // The effect is -1500, v is 5 and -5 at the entries 1 and 3: -7500 / 5000 and 7500 / 5000.
    private static void removeDays() {
        SeasonalAdjuster x = Make.of(2, 0, 0, 5, 1, 0, 4, 0);
        x.setDays(1, 21);
        x.setDays(3, 19);
        check.same("daysEffect", x.daysEffect(), -1500);
        check.same("removeDays", x.removeDays(), 2);
        check.row("value", x::value, 0, 5, 3, 0, 2, 0);
    }

    private static void fill() {
        int[][] cases = {{0, 1, 1}, {0, -1, -1}, {1, -2, -1}, {-1, 2, 1}, {1000000, 999999, 1000000},
            {-1000000, -999999, -1000000}, {1000000, -1000000, 0}, {3, 5, 4}};
        for (int[] one : cases) {
            SeasonalAdjuster x = Make.of(2, 0, 2, one[0], 7, 7, 7, one[1]);
            x.setMissing(2);
            check.same("fill", x.fill(), 1);
            check.same("between " + one[0] + " and " + one[1], x.value(2), one[2]);
        }
    }
}
