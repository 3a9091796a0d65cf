/** Promises 1 to 4: a new object, the period, the mode, the rounds. */
public final class SettingsTest {
    private static final Check check = new Check();

    public static void main(String[] args) {
        promise01NewObject();
        promise02SetPeriod();
        promise03SetMode();
        promise04SetRounds();
        check.finish();
    }

    private static void promise01NewObject() {
        SeasonalAdjuster x = new SeasonalAdjuster();
        check.same("new: size", x.size(), 0);
        check.same("new: missing(0)", x.missing(0), SeasonalAdjuster.NONE);
        check.isTrue("new: cannot be decomposed", !x.canDecompose());
        check.illegalState("new: undo", x::undo);
        check.same("new: digest", x.digest(), StateTest.hash(0, 4, 0, 2, 0, 0));
        check.same("new: period", x.setPeriod(5), 4);
        check.same("new: mode", x.setMode(1), SeasonalAdjuster.ADDITIVE);
        check.same("new: rounds", x.setRounds(0), 2);
        x.append(1);
        check.same("new: days of an entry", x.setDays(0, 3), 20);
    }

    private static void promise02SetPeriod() {
        SeasonalAdjuster x = new SeasonalAdjuster();
        check.same("setPeriod(2)", x.setPeriod(2), 4);
        check.same("setPeriod(12)", x.setPeriod(12), 2);
        check.same("setPeriod(12) again", x.setPeriod(12), 12);
        long before = x.digest();
        for (int wrong : new int[] {1, 13, 0, -2, Integer.MIN_VALUE, Integer.MAX_VALUE}) {
            check.illegalArgument("setPeriod(" + wrong + ")", () -> x.setPeriod(wrong));
        }
        check.same("digest after wrong periods", x.digest(), before);
        check.same("states: one for each, also without a change", x.undo(), 2);
        check.same("undo to 2", x.undo(), 1);
        check.same("the period is 2 again", x.setPeriod(3), 2);
    }

    private static void promise03SetMode() {
        SeasonalAdjuster x = new SeasonalAdjuster();
        check.same("setMode(1)", x.setMode(SeasonalAdjuster.MULTIPLICATIVE), 0);
        check.same("setMode(1) again", x.setMode(SeasonalAdjuster.MULTIPLICATIVE), 1);
        check.same("setMode(0)", x.setMode(SeasonalAdjuster.ADDITIVE), 1);
        check.same("setMode is undoable", x.undo(), 2);
        check.same("the mode is 1 again", x.setMode(0), 1);
        for (int wrong : new int[] {-1, 2, Integer.MIN_VALUE, Integer.MAX_VALUE}) {
            check.illegalArgument("setMode(" + wrong + ")", () -> x.setMode(wrong));
        }
        x.append(1);
        x.append(0);
        long before = x.digest();
        check.illegalState("setMode(1) with a 0", () -> x.setMode(1));
        check.illegalArgument("setMode(2) with a 0: the first exception", () -> x.setMode(2));
        check.same("digest after wrong modes", x.digest(), before);
        check.same("setMode(0) with a 0", x.setMode(0), 0);
        x.setMissing(1);
        check.same("setMode(1) with a missing entry", x.setMode(1), 0);
        x.setMode(0);
        x.set(1, -5);
        check.illegalState("setMode(1) with a -5", () -> x.setMode(1));
        x.removeLast();
        check.same("setMode(1) without it", x.setMode(1), 0);
    }

    private static void promise04SetRounds() {
        SeasonalAdjuster x = new SeasonalAdjuster();
        check.same("setRounds(0)", x.setRounds(0), 2);
        check.same("setRounds(5)", x.setRounds(5), 0);
        long before = x.digest();
        for (int wrong : new int[] {-1, 6, Integer.MIN_VALUE, Integer.MAX_VALUE}) {
            check.illegalArgument("setRounds(" + wrong + ")", () -> x.setRounds(wrong));
        }
        check.same("digest after wrong rounds", x.digest(), before);
        check.same("setRounds is undoable", x.undo(), 1);
        check.same("the rounds are 0 again", x.setRounds(1), 0);
    }
}
