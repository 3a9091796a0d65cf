import java.util.function.BiConsumer;
import java.util.function.Supplier;

/** Objects that several tests begin with. */
final class Make {
    private Make() { }

    static SeasonalAdjuster of(int period, int mode, int rounds, int... values) {
        SeasonalAdjuster x = new SeasonalAdjuster();
        x.setPeriod(period);
        x.setRounds(rounds);
        for (int value : values) {
            x.append(value);
        }
        x.setMode(mode);
        return x;
    }

    /** The series of the document's third example; entry 4 is the outlier. */
    static SeasonalAdjuster spiked() {
        return of(2, SeasonalAdjuster.ADDITIVE, 2, 10, 4, 10, 4, 40, 4, 10, 4, 10);
    }

    /** 72 entries, as many as there may be. */
    static SeasonalAdjuster full() {
        SeasonalAdjuster x = new SeasonalAdjuster();
        for (int i = 0; i < 72; i++) {
            x.append(i);
        }
        return x;
    }

    /** Entries 1, 2, 3 and so on. */
    static SeasonalAdjuster rising(int length, int mode) {
        SeasonalAdjuster x = new SeasonalAdjuster();
        for (int i = 1; i <= length; i++) {
            x.append(i);
        }
        x.setMode(mode);
        return x;
    }

    /** Too short for its period by one entry, with unequal days. */
    static SeasonalAdjuster tooShort() {
        SeasonalAdjuster x = rising(11, 0);
        x.setPeriod(6);
        x.setDays(3, 7);
        return x;
    }

    /** Long enough, but entry 3 is missing; its days differ. */
    static SeasonalAdjuster gapped() {
        SeasonalAdjuster x = spiked();
        x.setDays(3, 31);
        x.setMissing(3);
        return x;
    }

    /** A single missing entry, which nothing can fill. */
    static SeasonalAdjuster allMissing() {
        SeasonalAdjuster x = new SeasonalAdjuster();
        x.appendMissing();
        return x;
    }

    /** A ratio of two to one between the seasons, with unequal days. */
    static SeasonalAdjuster ratios() {
        SeasonalAdjuster x = of(2, SeasonalAdjuster.MULTIPLICATIVE, 2, 200, 100, 200, 100, 200, 100);
        x.setDays(2, 0);
        return x;
    }

    /** As spiked(), but nothing can be undone. */
    static SeasonalAdjuster withEmptyStack() {
        SeasonalAdjuster x = spiked();
        emptyStack(x);
        return x;
    }

    /** Leaves the series as it is: the states before the last four changes are dropped, and those undone. */
    static void emptyStack(SeasonalAdjuster x) {
        for (int i = 0; i < 4; i++) {
            x.fill();
        }
        for (int i = 0; i < 4; i++) {
            x.undo();
        }
    }

    /** One object of every kind of state that the document tells apart, by its name. */
    static void eachState(BiConsumer<String, Supplier<SeasonalAdjuster>> use) {
        use.accept("new", SeasonalAdjuster::new);
        use.accept("all missing", Make::allMissing);
        use.accept("too short", Make::tooShort);
        use.accept("gapped", Make::gapped);
        use.accept("spiked", Make::spiked);
        use.accept("ratios", Make::ratios);
        use.accept("empty stack", Make::withEmptyStack);
        use.accept("full", Make::full);
    }
}
