import java.util.function.Supplier;
import java.util.function.ToLongFunction;

/**
 * Every "Throws .." line of promises 2 to 30, in each state where it applies: the exception,
 * which of several comes first, and that the call changes nothing, the undo stack included.
 */
public final class RefusalTest {
    private static final Check check = new Check();
    private static final String ARGUMENT = "IllegalArgumentException";
    private static final String STATE = "IllegalStateException";
    private static final String BOUNDS = "IndexOutOfBoundsException";

    public static void main(String[] args) {
        wrongArgumentsInEveryState();
        wrongEntriesInEveryState();
        promise03ModeAndLowValues();
        promises05And06Full();
        promise07SetOfRatios();
        promises08And13Missing();
        promise10RemoveLast();
        promise11Fill();
        promises16To29WithoutDecomposition();
        promises16To27WithDecomposition();
        promises28And29Days();
        promise30Undo();
        readersSaveNothing();
        check.finish();
    }

    // Two equal objects, and the call on one of them only: all that can be seen of the two,
    // down to the bottom of their stacks, must stay equal.
    private static void refused(String what, String exception, Supplier<SeasonalAdjuster> maker,
            ToLongFunction<SeasonalAdjuster> call) {
        SeasonalAdjuster tried = maker.get();
        SeasonalAdjuster untouched = maker.get();
        check.same(what + ": before", tried.digest(), untouched.digest());
        check.same(what, Check.answer(() -> call.applyAsLong(tried)), "throws." + exception);
        sameDownToTheBottom(what, tried, untouched);
    }

    private static void sameDownToTheBottom(String what, SeasonalAdjuster tried, SeasonalAdjuster untouched) {
        for (int i = 0; i <= 4; i++) {
            check.same(what + ": size", tried.size(), untouched.size());
            check.same(what + ": missing(0)", tried.missing(0), untouched.missing(0));
            check.same(what + ": digest", tried.digest(), untouched.digest());
            check.same(what + ": undo", Check.answer(tried::undo), Check.answer(untouched::undo));
        }
    }

    private static void wrongArgumentsInEveryState() {
        Make.eachState((state, maker) -> {
            for (int wrong : new int[] {1, 13}) {
                refused(state + ": setPeriod(" + wrong + ")", ARGUMENT, maker, x -> x.setPeriod(wrong));
            }
            for (int wrong : new int[] {-1, 2}) {
                refused(state + ": setMode(" + wrong + ")", ARGUMENT, maker, x -> x.setMode(wrong));
            }
            for (int wrong : new int[] {-1, 6}) {
                refused(state + ": setRounds(" + wrong + ")", ARGUMENT, maker, x -> x.setRounds(wrong));
            }
            for (int wrong : new int[] {-1000001, 1000001}) {
                refused(state + ": append(" + wrong + ")", ARGUMENT, maker, x -> x.append(wrong));
            }
            refused(state + ": missing(-1)", ARGUMENT, maker, x -> x.missing(-1));
            for (int wrong : new int[] {-1, 12}) {
                refused(state + ": factor(" + wrong + ")", ARGUMENT, maker, x -> x.factor(wrong));
                refused(state + ": seasonOfRank(" + wrong + ")", ARGUMENT, maker, x -> x.seasonOfRank(wrong));
            }
            for (int wrong : new int[] {0, 25}) {
                refused(state + ": forecast(" + wrong + ")", ARGUMENT, maker, x -> x.forecast(wrong));
            }
        });
    }

    // The number of the entry is looked at before the value and the days.
    private static void wrongEntriesInEveryState() {
        Make.eachState((state, maker) -> {
            for (int wrong : new int[] {-1, maker.get().size()}) {
                String at = "(" + wrong;
                refused(state + ": set" + at + ", 5)", BOUNDS, maker, x -> x.set(wrong, 5));
                refused(state + ": set" + at + ", 1000001)", BOUNDS, maker, x -> x.set(wrong, 1000001));
                refused(state + ": set" + at + ", -1000001)", BOUNDS, maker, x -> x.set(wrong, -1000001));
                refused(state + ": setMissing" + at + ")", BOUNDS, maker, x -> x.setMissing(wrong));
                refused(state + ": setDays" + at + ", 5)", BOUNDS, maker, x -> x.setDays(wrong, 5));
                refused(state + ": setDays" + at + ", 32)", BOUNDS, maker, x -> x.setDays(wrong, 32));
                refused(state + ": setDays" + at + ", -1)", BOUNDS, maker, x -> x.setDays(wrong, -1));
                refused(state + ": value" + at + ")", BOUNDS, maker, x -> x.value(wrong));
            }
            int last = maker.get().size() - 1;
            if (last >= 0) {
                refused(state + ": set(last, 1000001)", ARGUMENT, maker, x -> x.set(last, 1000001));
                refused(state + ": set(0, -1000001)", ARGUMENT, maker, x -> x.set(0, -1000001));
                refused(state + ": setDays(last, 32)", ARGUMENT, maker, x -> x.setDays(last, 32));
                refused(state + ": setDays(0, -1)", ARGUMENT, maker, x -> x.setDays(0, -1));
            }
        });
    }

    private static void promise03ModeAndLowValues() {
        for (int low : new int[] {0, -1, -1000000}) {
            for (int entry = 0; entry < 5; entry++) {
                int[] values = {1, 2, 3, 4, 5};
                values[entry] = low;
                Supplier<SeasonalAdjuster> maker = () -> Make.of(2, 0, 2, values);
                String what = low + " at " + entry + ": ";
                refused(what + "setMode(1)", STATE, maker, x -> x.setMode(1));
                refused(what + "setMode(2), the first exception", ARGUMENT, maker, x -> x.setMode(2));
                refused(what + "setMode(-1), the first exception", ARGUMENT, maker, x -> x.setMode(-1));
            }
        }
    }

    private static void promises05And06Full() {
        refused("full: append", STATE, Make::full, x -> x.append(5));
        refused("full: append(1000001), the first exception", ARGUMENT, Make::full, x -> x.append(1000001));
        refused("full: appendMissing", STATE, Make::full, SeasonalAdjuster::appendMissing);
        Supplier<SeasonalAdjuster> ratios = () -> Make.rising(72, 1);
        refused("full of ratios: append", STATE, ratios, x -> x.append(1));
        refused("full of ratios: append(0), the first exception", ARGUMENT, ratios, x -> x.append(0));
        refused("full of ratios: appendMissing", STATE, ratios, SeasonalAdjuster::appendMissing);
        refused("ratios: append(0)", ARGUMENT, Make::ratios, x -> x.append(0));
        refused("ratios: append(-5)", ARGUMENT, Make::ratios, x -> x.append(-5));
    }

    private static void promise07SetOfRatios() {
        refused("ratios: set(0, 0)", ARGUMENT, Make::ratios, x -> x.set(0, 0));
        refused("ratios: set(5, -1)", ARGUMENT, Make::ratios, x -> x.set(5, -1));
        refused("ratios: set(6, 0), the first exception", BOUNDS, Make::ratios, x -> x.set(6, 0));
        refused("ratios: set(-1, 0), the first exception", BOUNDS, Make::ratios, x -> x.set(-1, 0));
        Supplier<SeasonalAdjuster> gapped = () -> {
            SeasonalAdjuster x = Make.ratios();
            x.setMissing(2);
            return x;
        };
        refused("ratios: set of a missing entry to 0", ARGUMENT, gapped, x -> x.set(2, 0));
    }

    private static void promises08And13Missing() {
        refused("setMissing of a missing entry", STATE, Make::gapped, x -> x.setMissing(3));
        refused("setMissing of the only entry, missing", STATE, Make::allMissing, x -> x.setMissing(0));
        refused("value of a missing entry", STATE, Make::gapped, x -> x.value(3));
        refused("value of the only entry, missing", STATE, Make::allMissing, x -> x.value(0));
    }

    private static void promise10RemoveLast() {
        refused("removeLast of a new object", STATE, SeasonalAdjuster::new, SeasonalAdjuster::removeLast);
        Supplier<SeasonalAdjuster> emptied = () -> {
            SeasonalAdjuster x = Make.rising(1, 0);
            x.removeLast();
            return x;
        };
        refused("removeLast of an emptied series", STATE, emptied, SeasonalAdjuster::removeLast);
    }

    // Other gaps could be filled; one season without a value is enough to fill none.
    private static void promise11Fill() {
        refused("fill of one missing entry", STATE, Make::allMissing, SeasonalAdjuster::fill);
        int[][] gaps = {{0, 1, 3, 5}, {1, 3, 5}, {1, 2, 3, 5}, {0, 2, 4}, {0, 1, 2, 4}};
        for (int[] entries : gaps) {
            Supplier<SeasonalAdjuster> maker = () -> {
                SeasonalAdjuster x = Make.of(2, 0, 2, 10, 20, 30, 40, 50, 60);
                for (int entry : entries) {
                    x.setMissing(entry);
                }
                return x;
            };
            refused("fill without a value of some season", STATE, maker, SeasonalAdjuster::fill);
        }
        Supplier<SeasonalAdjuster> wide = () -> {
            SeasonalAdjuster x = Make.rising(12, 0);
            x.setPeriod(12);
            x.setMissing(11);
            return x;
        };
        refused("fill where each entry has a season of its own", STATE, wide, SeasonalAdjuster::fill);
    }

    private static void promises16To29WithoutDecomposition() {
        Make.eachState((state, maker) -> {
            if (maker.get().canDecompose()) {
                return;
            }
            for (int entry : new int[] {-1, 0, 3, 72, Integer.MIN_VALUE, Integer.MAX_VALUE}) {
                String at = "(" + entry + "), the first exception";
                refused(state + ": firstTrend" + at, STATE, maker, x -> x.firstTrend(entry));
                refused(state + ": deviation" + at, STATE, maker, x -> x.deviation(entry));
                refused(state + ": weight" + at, STATE, maker, x -> x.weight(entry));
                refused(state + ": adjusted" + at, STATE, maker, x -> x.adjusted(entry));
                refused(state + ": trend" + at, STATE, maker, x -> x.trend(entry));
                refused(state + ": irregular" + at, STATE, maker, x -> x.irregular(entry));
                refused(state + ": outlier" + at, STATE, maker, x -> x.outlier(entry));
            }
            refused(state + ": spread", STATE, maker, SeasonalAdjuster::spread);
            refused(state + ": outlierCount", STATE, maker, SeasonalAdjuster::outlierCount);
            for (int allowed : new int[] {0, 1}) {
                refused(state + ": factor(" + allowed + ")", STATE, maker, x -> x.factor(allowed));
                refused(state + ": seasonOfRank(" + allowed + ")", STATE, maker, x -> x.seasonOfRank(allowed));
            }
            for (int allowed : new int[] {1, 24}) {
                refused(state + ": forecast(" + allowed + ")", STATE, maker, x -> x.forecast(allowed));
            }
            refused(state + ": daysEffect", STATE, maker, SeasonalAdjuster::daysEffect);
            refused(state + ": removeDays", STATE, maker, SeasonalAdjuster::removeDays);
        });
    }

    private static void promises16To27WithDecomposition() {
        for (int entry : new int[] {-1, 0, 8, 9}) {
            refused("firstTrend(" + entry + ")", BOUNDS, Make::spiked, x -> x.firstTrend(entry));
            refused("deviation(" + entry + ")", BOUNDS, Make::spiked, x -> x.deviation(entry));
            refused("weight(" + entry + ")", BOUNDS, Make::spiked, x -> x.weight(entry));
        }
        for (int entry : new int[] {-1, 9, 72}) {
            refused("adjusted(" + entry + ")", BOUNDS, Make::spiked, x -> x.adjusted(entry));
            refused("trend(" + entry + ")", BOUNDS, Make::spiked, x -> x.trend(entry));
            refused("irregular(" + entry + ")", BOUNDS, Make::spiked, x -> x.irregular(entry));
        }
        for (int index : new int[] {-1, 1}) {
            refused("outlier(" + index + ")", BOUNDS, Make::spiked, x -> x.outlier(index));
        }
        refused("factor(P)", ARGUMENT, Make::spiked, x -> x.factor(2));
        refused("seasonOfRank(P)", ARGUMENT, Make::spiked, x -> x.seasonOfRank(2));
        refused("factor(P) without a decomposition, the first exception", ARGUMENT, Make::gapped, x -> x.factor(2));
        refused("seasonOfRank(P) without a decomposition, the first exception", ARGUMENT, Make::gapped,
                x -> x.seasonOfRank(2));
    }

    private static void promises28And29Days() {
        for (int days : new int[] {0, 20, 31}) {
            Supplier<SeasonalAdjuster> equal = () -> {
                SeasonalAdjuster x = Make.spiked();
                for (int t = 0; t < 9; t++) {
                    x.setDays(t, days);
                }
                return x;
            };
            refused("daysEffect, all days " + days, STATE, equal, SeasonalAdjuster::daysEffect);
            refused("removeDays, all days " + days, STATE, equal, SeasonalAdjuster::removeDays);
        }
        Supplier<SeasonalAdjuster> gapped = () -> {
            SeasonalAdjuster x = Make.ratios();
            x.setMissing(1);
            return x;
        };
        refused("daysEffect of ratios with a gap", STATE, gapped, SeasonalAdjuster::daysEffect);
        refused("removeDays of ratios with a gap", STATE, gapped, SeasonalAdjuster::removeDays);
        refused("daysEffect of ratios", STATE, Make::ratios, SeasonalAdjuster::daysEffect);
        refused("removeDays of ratios", STATE, Make::ratios, SeasonalAdjuster::removeDays);
    }

    private static void promise30Undo() {
        refused("undo of a new object", STATE, SeasonalAdjuster::new, SeasonalAdjuster::undo);
        refused("undo with an empty stack", STATE, Make::withEmptyStack, SeasonalAdjuster::undo);
    }

    private static void readersSaveNothing() {
        Make.eachState((state, maker) -> {
            SeasonalAdjuster read = maker.get();
            Check.answer(read::size);
            Check.answer(() -> read.value(0));
            Check.answer(() -> read.missing(0));
            Check.answer(() -> read.canDecompose() ? 1 : 0);
            Check.answer(() -> read.firstTrend(2));
            Check.answer(() -> read.deviation(2));
            Check.answer(() -> read.weight(2));
            Check.answer(read::spread);
            Check.answer(() -> read.factor(0));
            Check.answer(() -> read.adjusted(0));
            Check.answer(() -> read.trend(0));
            Check.answer(() -> read.irregular(0));
            Check.answer(read::outlierCount);
            Check.answer(() -> read.outlier(0));
            Check.answer(() -> read.seasonOfRank(0));
            Check.answer(() -> read.forecast(1));
            Check.answer(read::daysEffect);
            Check.answer(read::digest);
            sameDownToTheBottom(state + ", read", read, maker.get());
        });
    }
}
