/** Promises 5 to 15: the entries, their values and days, and whether they can be decomposed. */
public final class EntriesTest {
    private static final Check check = new Check();

    public static void main(String[] args) {
        promise05Append();
        promise06AppendMissing();
        promise07Set();
        promise08SetMissing();
        promise09SetDays();
        promise10RemoveLast();
        promise11Fill();
        promise11FillUsesTheValuesBefore();
        promise12Size();
        promise13Value();
        promise14Missing();
        promise15CanDecompose();
        check.finish();
    }

    private static void promise05Append() {
        SeasonalAdjuster x = new SeasonalAdjuster();
        check.same("append least", x.append(-1000000), 0);
        check.same("append greatest", x.append(1000000), 1);
        check.same("value(0)", x.value(0), -1000000);
        check.same("value(1)", x.value(1), 1000000);
        long before = x.digest();
        for (int wrong : new int[] {-1000001, 1000001, Integer.MIN_VALUE, Integer.MAX_VALUE}) {
            check.illegalArgument("append(" + wrong + ")", () -> x.append(wrong));
        }
        check.same("digest after wrong values", x.digest(), before);
        check.same("append is undoable", x.undo(), 1);
        check.same("size", x.size(), 1);
        x.set(0, 1);
        x.setMode(1);
        check.illegalArgument("multiplicative: append(0)", () -> x.append(0));
        check.illegalArgument("multiplicative: append(1000001)", () -> x.append(1000001));
        check.same("multiplicative: append(1)", x.append(1), 1);
        check.same("multiplicative: append(1000000)", x.append(1000000), 2);

        SeasonalAdjuster full = Make.full();
        check.same("72 entries", full.size(), 72);
        long digest = full.digest();
        check.illegalState("append of a 73rd", () -> full.append(1));
        check.illegalArgument("append of a wrong 73rd", () -> full.append(1000001));
        check.same("digest after a 73rd", full.digest(), digest);
    }

    private static void promise06AppendMissing() {
        SeasonalAdjuster x = new SeasonalAdjuster();
        check.same("appendMissing", x.appendMissing(), 0);
        x.append(5);
        check.same("appendMissing", x.appendMissing(), 2);
        check.same("missing(0)", x.missing(0), 0);
        check.same("missing(1)", x.missing(1), 2);
        check.same("its days", x.setDays(2, 1), 20);
        check.same("undo", x.undo(), 3);
        check.same("appendMissing is undoable", x.undo(), 2);
        check.same("size", x.size(), 2);

        SeasonalAdjuster full = Make.full();
        long digest = full.digest();
        check.illegalState("appendMissing of a 73rd", full::appendMissing);
        check.same("digest after a 73rd", full.digest(), digest);
        full.removeLast();
        check.same("appendMissing of the 72nd", full.appendMissing(), 71);
    }

    private static void promise07Set() {
        SeasonalAdjuster x = new SeasonalAdjuster();
        x.append(1);
        x.appendMissing();
        x.appendMissing();
        check.same("set of a value", x.set(0, -1000000), 2);
        check.same("set of a missing entry", x.set(1, 1000000), 1);
        check.same("value(0)", x.value(0), -1000000);
        check.same("value(1)", x.value(1), 1000000);
        long before = x.digest();
        for (int wrong : new int[] {-1, 3, Integer.MIN_VALUE, Integer.MAX_VALUE}) {
            check.outOfBounds("set(" + wrong + ", 5)", () -> x.set(wrong, 5));
            check.outOfBounds("set(" + wrong + ", 1000001)", () -> x.set(wrong, 1000001));
        }
        check.illegalArgument("set(0, 1000001)", () -> x.set(0, 1000001));
        check.illegalArgument("set(0, -1000001)", () -> x.set(0, -1000001));
        check.same("digest after wrong sets", x.digest(), before);
        x.set(0, 7);
        check.same("set is undoable", x.undo(), 3);
        check.same("value(0) is back", x.value(0), -1000000);
        x.set(0, 1);
        x.setMode(1);
        check.illegalArgument("multiplicative: set(2, 0)", () -> x.set(2, 0));
        check.same("multiplicative: set(2, 1)", x.set(2, 1), 0);
    }

    private static void promise08SetMissing() {
        SeasonalAdjuster x = new SeasonalAdjuster();
        x.append(8);
        x.append(-9);
        x.setDays(1, 7);
        check.same("setMissing(1)", x.setMissing(1), -9);
        check.illegalState("setMissing(1) again", () -> x.setMissing(1));
        check.outOfBounds("setMissing(2)", () -> x.setMissing(2));
        check.outOfBounds("setMissing(-1)", () -> x.setMissing(-1));
        check.outOfBounds("setMissing(max)", () -> x.setMissing(Integer.MAX_VALUE));
        check.same("the digest has 0 for its value", x.digest(),
                StateTest.hash(4, 4, 0, 2, 2, 0, 8, 20, 1, 0, 7, 0));
        check.same("setMissing is undoable", x.undo(), 3);
        check.same("value(1) is back", x.value(1), -9);
        check.same("its days stay", x.setDays(1, 8), 7);
    }

    private static void promise09SetDays() {
        SeasonalAdjuster x = new SeasonalAdjuster();
        x.append(1);
        x.appendMissing();
        check.same("setDays(0, 0)", x.setDays(0, 0), 20);
        check.same("setDays(0, 31)", x.setDays(0, 31), 0);
        check.same("setDays of a missing entry", x.setDays(1, 22), 20);
        long before = x.digest();
        check.illegalArgument("setDays(0, 32)", () -> x.setDays(0, 32));
        check.illegalArgument("setDays(0, -1)", () -> x.setDays(0, -1));
        check.illegalArgument("setDays(0, min)", () -> x.setDays(0, Integer.MIN_VALUE));
        check.outOfBounds("setDays(2, 5)", () -> x.setDays(2, 5));
        check.outOfBounds("setDays(-1, 32)", () -> x.setDays(-1, 32));
        check.same("digest after wrong days", x.digest(), before);
        check.same("setDays is undoable", x.undo(), 3);
        check.same("the days are back", x.setDays(1, 1), 20);
    }

    private static void promise10RemoveLast() {
        SeasonalAdjuster x = new SeasonalAdjuster();
        check.illegalState("removeLast of nothing", x::removeLast);
        check.illegalState("it saved nothing", x::undo);
        x.append(5);
        x.append(6);
        x.setDays(1, 9);
        check.same("removeLast", x.removeLast(), 1);
        check.outOfBounds("value(1)", () -> x.value(1));
        check.same("append after it", x.append(7), 1);
        check.same("the new entry has its own days", x.setDays(1, 3), 20);
        x.undo();
        x.undo();
        check.same("removeLast is undoable", x.undo(), 1);
        check.same("value(1) is back", x.value(1), 6);
        check.same("its days are back", x.setDays(1, 3), 9);
        check.same("removeLast", x.removeLast(), 1);
        check.same("removeLast of the only one", x.removeLast(), 0);
        check.illegalState("removeLast of nothing", x::removeLast);
    }

    private static void promise11Fill() {
        SeasonalAdjuster x = Make.of(2, 0, 2, 5, 0, 8, 3, -1, 4);
        check.same("fill of nothing", x.fill(), 0);
        x.setMissing(2);
        check.same("fill between two", x.fill(), 1);
        check.same("(5 - 1) / 2", x.value(2), 2);
        x.set(4, 4);
        x.setMissing(2);
        x.fill();
        check.same("(5 + 4) / 2, the half goes away from 0", x.value(2), 5);
        x.set(0, -5);
        x.set(4, -4);
        x.setMissing(2);
        x.fill();
        check.same("(-5 - 4) / 2, the half goes away from 0", x.value(2), -5);
        x.setMissing(1);
        x.setMissing(5);
        check.same("fill at both ends", x.fill(), 2);
        check.same("the value above alone", x.value(1), 3);
        check.same("the value below alone", x.value(5), 3);
        check.same("fill is undoable", x.undo(), 3);
        check.same("missing(0) is back", x.missing(0), 1);
        check.same("missing(1) is back", x.missing(1), 5);
        x.setMissing(3);
        long before = x.digest();
        check.illegalState("a season without a value", x::fill);
        check.same("digest after it", x.digest(), before);
        x.set(3, 1000000);
        check.same("fill of two from one", x.fill(), 2);
        check.same("value(1)", x.value(1), 1000000);
        check.illegalState("one missing entry alone", () -> {
            SeasonalAdjuster y = new SeasonalAdjuster();
            y.appendMissing();
            return y.fill();
        });
        check.same("fill of an empty series", new SeasonalAdjuster().fill(), 0);
        SeasonalAdjuster full = Make.full();
        full.setMissing(0);
        full.setMissing(71);
        check.same("fill of a full series", full.fill(), 2);
        check.same("value(0)", full.value(0), 4);
        check.same("value(71)", full.value(71), 67);
    }

    private static void promise11FillUsesTheValuesBefore() {
        SeasonalAdjuster x = Make.of(2, 0, 2, 0, 7, 99, 7, 99, 7, 100);
        x.setMissing(2);
        x.setMissing(4);
        check.same("fill of two neighbours", x.fill(), 2);
        check.same("value(2)", x.value(2), 50);
        check.same("value(4)", x.value(4), 50);
        SeasonalAdjuster y = Make.of(2, 0, 2, 10, 7, 20, 7, 30, 7, 50, 7);
        y.setMissing(4);
        y.fill();
        check.same("the nearest of both sides", y.value(4), 35);
    }

    private static void promise12Size() {
        SeasonalAdjuster x = new SeasonalAdjuster();
        check.same("size", x.size(), 0);
        x.append(1);
        x.appendMissing();
        check.same("size counts missing entries", x.size(), 2);
        x.removeLast();
        check.same("size", x.size(), 1);
        x.undo();
        check.same("size after undo", x.size(), 2);
    }

    private static void promise13Value() {
        SeasonalAdjuster x = new SeasonalAdjuster();
        check.outOfBounds("value(0) of nothing", () -> x.value(0));
        x.append(-3);
        x.appendMissing();
        check.same("value(0)", x.value(0), -3);
        check.illegalState("value of a missing entry", () -> x.value(1));
        check.outOfBounds("value(2)", () -> x.value(2));
        check.outOfBounds("value(-1)", () -> x.value(-1));
        check.outOfBounds("value(min)", () -> x.value(Integer.MIN_VALUE));
        check.outOfBounds("value(max)", () -> x.value(Integer.MAX_VALUE));
    }

    private static void promise14Missing() {
        SeasonalAdjuster x = Make.of(4, 0, 2, 1, 2, 3, 4, 5);
        check.same("missing(0) of none", x.missing(0), -1);
        x.setMissing(4);
        x.setMissing(0);
        x.setMissing(2);
        check.same("missing(0)", x.missing(0), 0);
        check.same("missing(1)", x.missing(1), 2);
        check.same("missing(2)", x.missing(2), 4);
        check.same("missing(3)", x.missing(3), -1);
        check.same("missing(max)", x.missing(Integer.MAX_VALUE), -1);
        check.illegalArgument("missing(-1)", () -> x.missing(-1));
        check.illegalArgument("missing(min)", () -> x.missing(Integer.MIN_VALUE));
        x.removeLast();
        check.same("missing(2) without the last", x.missing(2), -1);
    }

    private static void promise15CanDecompose() {
        for (int period = 2; period <= 12; period++) {
            int least = Math.max(5, period + 2 * (period / 2));
            SeasonalAdjuster x = new SeasonalAdjuster();
            x.setPeriod(period);
            for (int n = 1; n <= least + 1; n++) {
                x.append(n);
                check.isTrue("period " + period + ", " + n + " entries", x.canDecompose() == (n >= least));
            }
            x.setMissing(least);
            check.isTrue("period " + period + " with a missing entry", !x.canDecompose());
            x.removeLast();
            check.isTrue("period " + period + " without it", x.canDecompose());
        }
    }
}
