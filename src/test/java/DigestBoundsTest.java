import java.math.BigInteger;
import java.util.ArrayList;
import java.util.List;

/** Promise 31 at its bounds: the wrap-around, each value and its place, the least and the longest series. */
public final class DigestBoundsTest {
    private static final Check check = new Check();

    public static void main(String[] args) {
        wrapAround();
        statesOnTheStack();
        placesOfTheSettings();
        placesOfTheEntries();
        withAndWithoutADecomposition();
        for (int period = 2; period <= 12; period++) {
            for (int mode = 0; mode <= 1; mode++) {
                int shortest = ArgumentBoundsTest.shortest(period);
                fromTheReaders(period, mode, shortest);
                fromTheReaders(period, mode, shortest + 1);
                fromTheReaders(period, mode, 72);
            }
        }
        check.finish();
    }

    // The document's hash without bounds, cut to 64 bits at its end: sums and products allow that.
    private static long hash(List<Long> values) {
        return unbounded(values).longValue();
    }

    private static BigInteger unbounded(List<Long> values) {
        BigInteger h = BigInteger.valueOf(11981);
        for (long v : values) {
            h = h.multiply(BigInteger.valueOf(31)).add(BigInteger.valueOf(v));
        }
        return h;
    }

    private static List<Long> list(long... values) {
        List<Long> list = new ArrayList<>();
        for (long v : values) {
            list.add(v);
        }
        return list;
    }

    private static boolean wraps(List<Long> values) {
        return unbounded(values).bitLength() > 63;
    }

    // With one entry the hash is the last that fits into 64 bits, with two it does not.
    private static void wrapAround() {
        SeasonalAdjuster x = new SeasonalAdjuster();
        check.same("a new object", x.digest(), 10633185298067L);
        x.append(-1000000);
        check.isTrue("one entry: no wrap", !wraps(list(1, 4, 0, 2, 1, 0, -1000000, 20, 0)));
        check.same("one entry", x.digest(), 316774075145675579L);
        x.appendMissing();
        check.isTrue("two entries: a wrap", wraps(list(2, 4, 0, 2, 2, 0, -1000000, 20, 1, 0, 20, 0)));
        check.same("two entries", x.digest(), -7691084570060204050L);
        x.append(5);
        check.same("three entries", x.digest(), 2535960709793459077L);
        check.same("once more", x.digest(), 2535960709793459077L);
        x.undo();
        x.undo();
        check.same("one entry, the stack with one state", x.digest(), 316774075145675579L);
    }

    private static void statesOnTheStack() {
        SeasonalAdjuster x = new SeasonalAdjuster();
        for (int changes = 0; changes <= 6; changes++) {
            check.same(changes + " changes", x.digest(), hash(list(Math.min(changes, 4), 4, 0, 2, 0, 0)));
            x.setPeriod(4);
        }
        for (int left = 3; left >= 0; left--) {
            x.undo();
            check.same(left + " states left", x.digest(), hash(list(left, 4, 0, 2, 0, 0)));
        }
    }

    private static void placesOfTheSettings() {
        for (int period = 2; period <= 12; period += 10) {
            for (int mode = 0; mode <= 1; mode++) {
                for (int rounds = 0; rounds <= 5; rounds += 5) {
                    SeasonalAdjuster x = new SeasonalAdjuster();
                    x.setPeriod(period);
                    x.setMode(mode);
                    x.setRounds(rounds);
                    check.same("settings", x.digest(), hash(list(3, period, mode, rounds, 0, 0)));
                }
            }
        }
    }

    private static void placesOfTheEntries() {
        SeasonalAdjuster x = new SeasonalAdjuster();
        x.append(1000000);
        x.append(-1000000);
        x.append(0);
        x.setDays(0, 0);
        x.setDays(1, 31);
        check.same("a 0 is no missing entry", x.digest(),
                hash(list(4, 4, 0, 2, 3, 0, 1000000, 0, 0, -1000000, 31, 0, 0, 20, 0)));
        x.setMissing(1);
        check.same("a missing entry has the value 0 and keeps its days", x.digest(),
                hash(list(4, 4, 0, 2, 3, 0, 1000000, 0, 1, 0, 31, 0, 0, 20, 0)));
        x.set(1, 7);
        check.same("with a value again", x.digest(),
                hash(list(4, 4, 0, 2, 3, 0, 1000000, 0, 0, 7, 31, 0, 0, 20, 0)));
        x.removeLast();
        x.appendMissing();
        check.same("another entry in the place of one removed", x.digest(),
                hash(list(4, 4, 0, 2, 3, 0, 1000000, 0, 0, 7, 31, 1, 0, 20, 0)));
    }

    private static void withAndWithoutADecomposition() {
        SeasonalAdjuster x = Make.of(2, 0, 0, -5, 0, 3, 0);
        List<Long> four = list(4, 2, 0, 0, 4, 0, -5, 20, 0, 0, 20, 0, 3, 20, 0, 0, 20, 0);
        check.same("n = 4", x.digest(), hash(four));
        x.append(4);
        List<Long> five = list(4, 2, 0, 0, 5, 0, -5, 20, 0, 0, 20, 0, 3, 20, 0, 0, 20, 0, 4, 20);
        List<Long> parts = list(1, 1, 1, -1, 0, 100, 100, 100, -4, -2, -1, 2, 2, 0, 2, -1, 2, 1);
        five.addAll(parts);
        check.same("n = 5", x.digest(), hash(five));
        x.setMissing(4);
        check.same("n = 5, one missing", x.digest(),
                hash(list(4, 2, 0, 0, 5, 0, -5, 20, 0, 0, 20, 0, 3, 20, 0, 0, 20, 1, 0, 20, 0)));
    }

    // Values that reach far and repeat nothing, so that all parts differ.
    private static void fromTheReaders(int period, int mode, int length) {
        int[] values = new int[length];
        for (int t = 0; t < length; t++) {
            values[t] = 1 + (int) (Math.floorMod(t * 7919L * (t + 3), 999999L));
            values[t] = mode == 0 && t % 3 == 1 ? -values[t] : values[t];
        }
        SeasonalAdjuster x = Make.of(period, mode, 3, values);
        List<Long> all = list(4, period, mode, 3, length);
        for (int value : values) {
            all.addAll(list(0, value, 20));
        }
        all.addAll(list(1, x.spread()));
        for (int season = 0; season < period; season++) {
            all.add(x.factor(season));
        }
        all.add((long) x.outlierCount());
        for (int t = period / 2; t <= length - 1 - period / 2; t++) {
            all.add((long) x.weight(t));
        }
        for (int t = 0; t < length; t++) {
            all.addAll(list(x.trend(t), x.irregular(t)));
        }
        check.same("P = " + period + ", mode " + mode + ", n = " + length, x.digest(), hash(all));
    }
}
