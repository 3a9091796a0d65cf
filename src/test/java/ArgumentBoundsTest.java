import java.util.function.Supplier;

/**
 * The range of every argument of promises 2 to 27: what it allows, from the least to the
 * greatest, is accepted, and what lies next to the two, or far away, is refused.
 */
public final class ArgumentBoundsTest {
    private static final Check check = new Check();
    private static final String ARGUMENT = "IllegalArgumentException";
    private static final String BOUNDS = "IndexOutOfBoundsException";
    private static final int[] LENGTHS = {1, 2, 71, 72};

    private interface Call {
        long on(SeasonalAdjuster x, int argument);
    }

    public static void main(String[] args) {
        promises02To04Settings();
        promise05Append();
        promise07SetEntry();
        promise07SetValue();
        promise07MissingAfterwards();
        promise08SetMissing();
        promise09SetDays();
        promise13Value();
        promise14Missing();
        for (int period = 2; period <= 12; period++) {
            int shortest = shortest(period);
            for (int length : new int[] {shortest, shortest + 1, 71, 72}) {
                promises16To18StepOne(period, length);
                promises21To23AllEntries(period, length);
                promises20And26Seasons(period, length);
                promise27Steps(period, length);
            }
        }
        promise25Outliers();
        check.finish();
    }

    static int shortest(int period) {
        return Math.max(5, period + 2 * (period / 2));
    }

    // The call answers the argument itself, as it is read back.
    private static void settable(String what, Supplier<SeasonalAdjuster> maker, int least, int greatest,
            String refusal, Call echo) {
        for (int argument : samples(least, greatest)) {
            SeasonalAdjuster x = maker.get();
            check.same(what + "(" + argument + ")", Check.answer(() -> echo.on(x, argument)), "" + argument);
        }
        refusedOutside(what, maker, least, greatest, refusal, echo);
    }

    private static void readable(String what, Supplier<SeasonalAdjuster> maker, int least, int greatest,
            String refusal, Call call) {
        for (int argument : samples(least, greatest)) {
            SeasonalAdjuster x = maker.get();
            String answer = Check.answer(() -> call.on(x, argument));
            check.isTrue(what + "(" + argument + ") answers, not " + answer, !answer.startsWith("throws"));
        }
        refusedOutside(what, maker, least, greatest, refusal, call);
    }

    private static void refusedOutside(String what, Supplier<SeasonalAdjuster> maker, int least, int greatest,
            String refusal, Call call) {
        long[] outside = {least - 1L, greatest + 1L, least - 1000L, greatest + 1000L, Integer.MIN_VALUE,
            Integer.MAX_VALUE};
        for (long argument : outside) {
            boolean isInt = argument >= Integer.MIN_VALUE && argument <= Integer.MAX_VALUE;
            if (isInt && (argument < least || argument > greatest)) {
                SeasonalAdjuster x = maker.get();
                check.same(what + "(" + argument + ")", Check.answer(() -> call.on(x, (int) argument)),
                        "throws." + refusal);
            }
        }
    }

    // All of a short range, the ends and some between of a long one, none of an empty one.
    private static int[] samples(int least, int greatest) {
        if (greatest < least) {
            return new int[0];
        }
        if ((long) greatest - least < 100) {
            int[] all = new int[greatest - least + 1];
            for (int i = 0; i < all.length; i++) {
                all[i] = least + i;
            }
            return all;
        }
        return new int[] {least, least + 1, least / 2 + greatest / 2, greatest - 1, greatest};
    }

    private static void promises02To04Settings() {
        Make.eachState((state, maker) -> {
            settable(state + ": setPeriod", maker, 2, 12, ARGUMENT, (x, period) -> {
                x.setPeriod(period);
                return x.setPeriod(2);
            });
            settable(state + ": setRounds", maker, 0, 5, ARGUMENT, (x, rounds) -> {
                x.setRounds(rounds);
                return x.setRounds(0);
            });
        });
        Supplier<SeasonalAdjuster> least = () -> Make.of(4, 0, 2, 1, 1000000, 1);
        settable("setMode", least, 0, 1, ARGUMENT, (x, mode) -> {
            x.setMode(mode);
            return x.setMode(0);
        });
        check.same("setMode(1) with the least value 1", least.get().setMode(1), 0);
        for (int entry = 0; entry < 3; entry++) {
            for (int value : new int[] {0, -1, -1000000}) {
                SeasonalAdjuster x = least.get();
                x.set(entry, value);
                check.illegalState("setMode(1) with " + value + " at " + entry, () -> x.setMode(1));
                x.setMissing(entry);
                check.same("setMode(1) once it is missing", x.setMode(1), 0);
            }
        }
        check.same("setMode(1) of an empty series", new SeasonalAdjuster().setMode(1), 0);
    }

    private static void promise05Append() {
        Call append = (x, value) -> x.value(x.append(value));
        for (int length : new int[] {0, 1, 71}) {
            settable(length + " entries: append", () -> Make.rising(length, 0), -1000000, 1000000, ARGUMENT, append);
            settable(length + " ratios: append", () -> Make.rising(length, 1), 1, 1000000, ARGUMENT, append);
        }
    }

    private static void promise07SetEntry() {
        readable("empty: set(entry)", SeasonalAdjuster::new, 0, -1, BOUNDS, (x, entry) -> x.set(entry, 5));
        for (int length : LENGTHS) {
            readable(length + " entries: set(entry)", () -> Make.rising(length, 0), 0, length - 1, BOUNDS,
                    (x, entry) -> x.set(entry, 5));
        }
    }

    private static void promise07SetValue() {
        for (int entry : new int[] {0, 1, 71}) {
            Call set = (x, value) -> {
                x.set(entry, value);
                return x.value(entry);
            };
            Call setMissing = (x, value) -> {
                x.setMissing(entry);
                return set.on(x, value);
            };
            for (Call call : new Call[] {set, setMissing}) {
                settable("set(" + entry + ", value)", () -> Make.rising(72, 0), -1000000, 1000000, ARGUMENT, call);
                settable("ratios: set(" + entry + ", value)", () -> Make.rising(72, 1), 1, 1000000, ARGUMENT, call);
            }
        }
    }

    private static void promise07MissingAfterwards() {
        SeasonalAdjuster x = new SeasonalAdjuster();
        for (int i = 0; i < 72; i++) {
            x.appendMissing();
        }
        for (int i = 0; i < 72; i++) {
            check.same("missing after set(" + i + ", 0)", x.set(i, 0), 71 - i);
        }
        check.same("missing after set once more", x.set(71, 1), 0);
    }

    private static void promise08SetMissing() {
        readable("empty: setMissing", SeasonalAdjuster::new, 0, -1, BOUNDS, SeasonalAdjuster::setMissing);
        for (int length : LENGTHS) {
            readable(length + " entries: setMissing", () -> Make.rising(length, 0), 0, length - 1, BOUNDS,
                    SeasonalAdjuster::setMissing);
        }
    }

    private static void promise09SetDays() {
        readable("empty: setDays(entry)", SeasonalAdjuster::new, 0, -1, BOUNDS, (x, entry) -> x.setDays(entry, 5));
        for (int length : LENGTHS) {
            readable(length + " entries: setDays(entry)", () -> Make.rising(length, 0), 0, length - 1, BOUNDS,
                    (x, entry) -> x.setDays(entry, 5));
            settable(length + " entries: setDays(last, days)", () -> Make.rising(length, 0), 0, 31, ARGUMENT,
                    (x, days) -> {
                        x.setDays(length - 1, days);
                        return x.setDays(length - 1, 0);
                    });
        }
    }

    private static void promise13Value() {
        readable("empty: value", SeasonalAdjuster::new, 0, -1, BOUNDS, SeasonalAdjuster::value);
        for (int length : LENGTHS) {
            readable(length + " entries: value", () -> Make.rising(length, 0), 0, length - 1, BOUNDS,
                    SeasonalAdjuster::value);
        }
    }

    private static void promise14Missing() {
        Make.eachState((state, maker) -> readable(state + ": missing", maker, 0, Integer.MAX_VALUE, ARGUMENT,
                SeasonalAdjuster::missing));
        SeasonalAdjuster x = new SeasonalAdjuster();
        for (int i = 0; i < 72; i++) {
            x.appendMissing();
        }
        for (int i = 0; i < 72; i++) {
            check.same("72 missing: missing(" + i + ")", x.missing(i), i);
        }
        check.same("72 missing: missing(72)", x.missing(72), SeasonalAdjuster.NONE);
    }

    private static void promises16To18StepOne(int period, int length) {
        String series = "P = " + period + ", n = " + length + ": ";
        int half = period / 2;
        int last = length - 1 - half;
        SeasonalAdjuster x = series(period, length);
        readable(series + "firstTrend", () -> x, half, last, BOUNDS, SeasonalAdjuster::firstTrend);
        readable(series + "deviation", () -> x, half, last, BOUNDS, SeasonalAdjuster::deviation);
        readable(series + "weight", () -> x, half, last, BOUNDS, SeasonalAdjuster::weight);
    }

    private static void promises21To23AllEntries(int period, int length) {
        String series = "P = " + period + ", n = " + length + ": ";
        readable(series + "adjusted", () -> series(period, length), 0, length - 1, BOUNDS,
                SeasonalAdjuster::adjusted);
        readable(series + "trend", () -> series(period, length), 0, length - 1, BOUNDS, SeasonalAdjuster::trend);
        readable(series + "irregular", () -> series(period, length), 0, length - 1, BOUNDS,
                SeasonalAdjuster::irregular);
    }

    private static void promises20And26Seasons(int period, int length) {
        String series = "P = " + period + ", n = " + length + ": ";
        SeasonalAdjuster x = series(period, length);
        readable(series + "factor", () -> x, 0, period - 1, ARGUMENT, SeasonalAdjuster::factor);
        readable(series + "seasonOfRank", () -> x, 0, period - 1, ARGUMENT, SeasonalAdjuster::seasonOfRank);
    }

    private static void promise27Steps(int period, int length) {
        SeasonalAdjuster x = series(period, length);
        readable("P = " + period + ", n = " + length + ": forecast", () -> x, 1, 24, ARGUMENT,
                SeasonalAdjuster::forecast);
    }

    private static SeasonalAdjuster series(int period, int length) {
        SeasonalAdjuster x = Make.rising(length, 0);
        x.setPeriod(period);
        return x;
    }

    private static void promise25Outliers() {
        readable("no outlier", () -> Make.rising(72, 0), 0, -1, BOUNDS, SeasonalAdjuster::outlier);
        readable("one outlier", Make::spiked, 0, 0, BOUNDS, SeasonalAdjuster::outlier);
        readable("two outliers", () -> Make.of(2, 0, 1, 0, -5, 2, 1, 2, 4), 0, 1, BOUNDS, SeasonalAdjuster::outlier);
    }
}
