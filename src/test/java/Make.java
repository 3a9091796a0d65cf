/** Objects that several tests begin with. */
final class Make {
    private Make() { }

    static SeasonalAdjuster of(int period, int mode, int rounds, int... values) {
        SeasonalAdjuster x = new SeasonalAdjuster();
        x.setPeriod(period);
        x.setRounds(rounds);
        for (int value : values) {
            x.append(value);
        }
        x.setMode(mode);
        return x;
    }

    /** The series of the document's third example; entry 4 is the outlier. */
    static SeasonalAdjuster spiked() {
        return of(2, SeasonalAdjuster.ADDITIVE, 2, 10, 4, 10, 4, 40, 4, 10, 4, 10);
    }

    /** 72 entries, as many as there may be. */
    static SeasonalAdjuster full() {
        SeasonalAdjuster x = new SeasonalAdjuster();
        for (int i = 0; i < 72; i++) {
            x.append(i);
        }
        return x;
    }
}
