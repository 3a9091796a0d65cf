import java.util.function.ToIntFunction;

/** Promises 30 and 31: undo and digest. */
public final class StateTest {
    private static final Check check = new Check();

    public static void main(String[] args) {
        promise30Depth();
        promise30OfEveryMethod();
        promise30WithoutAChange();
        promise31WithoutDecomposition();
        promise31WithDecomposition();
        check.finish();
    }

    /** The document's hash of the values v. */
    static long hash(long... values) {
        long h = 11981;
        for (long v : values) {
            h = 31 * h + v;
        }
        return h;
    }

    private static void promise30Depth() {
        SeasonalAdjuster x = new SeasonalAdjuster();
        check.illegalState("undo of nothing", x::undo);
        for (int i = 1; i <= 6; i++) {
            x.append(i * 11);
        }
        for (int left = 3; left >= 0; left--) {
            check.same("undo", x.undo(), left);
            check.same("size after undo", x.size(), left + 2);
            check.same("value of the last", x.value(left + 1), (left + 2) * 11L);
        }
        check.illegalState("a fifth undo", x::undo);
        check.same("size", x.size(), 2);
        check.same("append after undo", x.append(5), 2);
        check.same("undo again", x.undo(), 0);
        check.same("value(1)", x.value(1), 22);
    }

    private static void promise30OfEveryMethod() {
        undone("setPeriod", x -> x.setPeriod(3));
        undone("setMode", x -> x.setMode(1));
        undone("setRounds", x -> x.setRounds(5));
        undone("append", x -> x.append(5));
        undone("appendMissing", SeasonalAdjuster::appendMissing);
        undone("set", x -> x.set(3, 1));
        undone("setMissing", x -> x.setMissing(3));
        undone("setDays", x -> x.setDays(3, 3));
        undone("removeLast", SeasonalAdjuster::removeLast);
        undone("removeDays", SeasonalAdjuster::removeDays);
        SeasonalAdjuster x = afterOneCall();
        x.setMissing(5);
        long before = x.digest();
        x.fill();
        check.isTrue("fill changes the digest", x.digest() != before);
        x.undo();
        check.same("digest after undo of fill", x.digest(), before);
        check.same("missing(0) after undo of fill", x.missing(0), 5);
    }

    private static void undone(String name, ToIntFunction<SeasonalAdjuster> change) {
        SeasonalAdjuster x = afterOneCall();
        long before = x.digest();
        long forecast = x.forecast(3);
        change.applyAsInt(x);
        check.isTrue(name + " changes the digest", x.digest() != before);
        check.same("states left after " + name, x.undo(), 1);
        check.same("digest after undo of " + name, x.digest(), before);
        check.same("forecast after undo of " + name, x.forecast(3), forecast);
    }

    // A single state on the stack, so that the next call drops none and the digest can return.
    private static SeasonalAdjuster afterOneCall() {
        SeasonalAdjuster x = Make.of(4, 0, 2, 110, 90, 120, 80, 114, 94, 150, 84, 118, 98, 128, 88);
        x.setDays(6, 25);
        for (int i = 0; i < 4; i++) {
            x.setPeriod(4);
        }
        for (int i = 0; i < 4; i++) {
            x.undo();
        }
        x.setRounds(2);
        return x;
    }

    private static void promise30WithoutAChange() {
        SeasonalAdjuster x = new SeasonalAdjuster();
        x.setPeriod(4);
        x.fill();
        check.same("calls that change nothing are saved too", x.undo(), 1);
        check.same("undo", x.undo(), 0);
        x.append(1);
        x.undo();
        check.illegalState("undo itself is not undoable", x::undo);
        x.append(5);
        check.illegalArgument("append(1000001)", () -> x.append(1000001));
        x.size();
        x.digest();
        check.same("a call that throws, and a reader, save nothing", x.undo(), 0);
    }

    private static void promise31WithoutDecomposition() {
        SeasonalAdjuster x = new SeasonalAdjuster();
        check.same("digest of a new object", x.digest(), hash(0, 4, 0, 2, 0, 0));
        x.setPeriod(7);
        x.setMode(1);
        x.setRounds(3);
        check.same("digest of settings", x.digest(), hash(3, 7, 1, 3, 0, 0));
        x.append(9);
        x.appendMissing();
        x.setDays(1, 31);
        check.same("digest of entries", x.digest(), hash(4, 7, 1, 3, 2, 0, 9, 20, 1, 0, 31, 0));
    }

    private static void promise31WithDecomposition() {
        SeasonalAdjuster x = Make.spiked();
        check.same("digest of a decomposition", x.digest(), hash(4, 2, 0, 2, 9,
                0, 10, 20, 0, 4, 20, 0, 10, 20, 0, 4, 20, 0, 40, 20, 0, 4, 20, 0, 10, 20, 0, 4, 20, 0, 10, 20,
                1, 6, 7, -7, 1, 100, 100, 100, 67, 100, 100, 100,
                8, -5, 7, 4, 6, -3, 15, -4, 24, 9, 15, -4, 6, -3, 7, 4, 8, -5));
        x.setMissing(0);
        check.same("digest without it", x.digest(), hash(4, 2, 0, 2, 9,
                1, 0, 20, 0, 4, 20, 0, 10, 20, 0, 4, 20, 0, 40, 20, 0, 4, 20, 0, 10, 20, 0, 4, 20, 0, 10, 20, 0));
    }
}
