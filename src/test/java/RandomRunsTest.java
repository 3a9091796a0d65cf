import java.util.Random;

/** Long runs of calls, the same ones every time, against the reference model. */
public final class RandomRunsTest {
    private static final int RUNS = 400;
    // As many calls as the document allows an object, none of them uncounted.
    private static final int CALLS = 512;
    private static final String[] READERS = {"size", "value", "missing", "canDecompose", "firstTrend", "deviation",
        "weight", "spread", "factor", "adjusted", "trend", "irregular", "outlierCount", "outlier", "seasonOfRank",
        "forecast", "daysEffect", "digest"};
    private static final String[] WRITERS = {"setPeriod", "setMode", "setRounds", "append", "append", "append",
        "append", "append", "append", "appendMissing", "set", "set", "setMissing", "setDays", "setDays", "removeLast",
        "fill", "fill", "removeDays", "undo"};

    private final Check check = new Check();
    private Random random;
    private int run;
    private int number;
    private SeasonalAdjuster program;
    private ReferenceModel model;

    public static void main(String[] args) {
        new RandomRunsTest().runAll();
    }

    private void runAll() {
        for (run = 0; run < RUNS; run++) {
            random = new Random(run);
            program = new SeasonalAdjuster();
            model = new ReferenceModel();
            number = 0;
            prepare();
            while (number < CALLS - 1) {
                boolean write = random.nextInt(3) == 0;
                String[] names = write ? WRITERS : READERS;
                String method = names[random.nextInt(names.length)];
                compare(method, firstArgument(method), secondArgument(method));
            }
            compare("digest", 0, 0);
        }
        check.finish();
    }

    // Half of the runs begin with a long series, so that the readers have something to read.
    // Spikes thirteen entries apart make all the ratios 0 if the period is 12.
    private void prepare() {
        if (random.nextBoolean()) {
            return;
        }
        compare("setPeriod", run % 9 == 7 ? 12 : 2 + random.nextInt(11), 0);
        compare("setMode", random.nextInt(2), 0);
        compare("setRounds", random.nextInt(6), 0);
        int length = run % 9 == 7 ? 71 : random.nextInt(73);
        for (int i = 0; i < length; i++) {
            compare("append", someValue(), 0);
        }
    }

    private void compare(String method, int a, int b) {
        number++;
        String got = Check.answer(() -> call(method, a, b));
        String due = model.answer(method, a, b);
        check.same("run " + run + ", call " + number + ": " + method + "(" + a + ", " + b + ")", got, due);
    }

    private int firstArgument(String method) {
        switch (method) {
            case "append": return someValue();
            case "setPeriod": case "factor": case "seasonOfRank": return around(0, 12);
            case "setMode": return around(0, 1);
            case "setRounds": return around(0, 5);
            case "forecast": return around(0, 25);
            case "missing": case "outlier": return random.nextInt(6) - 1;
            default: return around(0, model.size() - 1);
        }
    }

    private int secondArgument(String method) {
        return method.equals("setDays") ? around(0, 31) : someValue();
    }

    private int around(int least, int greatest) {
        int choice = random.nextInt(40);
        if (choice == 0) {
            return random.nextBoolean() ? Integer.MIN_VALUE : Integer.MAX_VALUE;
        }
        if (choice == 1) {
            return random.nextBoolean() ? least - 1 : greatest + 1;
        }
        return least + random.nextInt(Math.max(1, greatest - least + 1));
    }

    // Each run has a flavour of its own: small, wide, positive, extreme, seasonal, with spikes.
    private int someValue() {
        if (random.nextInt(60) == 0) {
            int[] edges = {-1000001, -1000000, -1, 0, 1, 1000000, 1000001, Integer.MIN_VALUE, Integer.MAX_VALUE};
            return edges[random.nextInt(edges.length)];
        }
        switch (run % 9) {
            case 0: return random.nextInt(9) - 4;
            case 1: return random.nextInt(2000001) - 1000000;
            case 2: return 1 + random.nextInt(1000000);
            case 3: return random.nextBoolean() ? 1000000 : -1000000;
            case 4: return random.nextInt(6) == 0 ? 1000000 : 1 + random.nextInt(3);
            case 5: return 1000 + 300 * (model.size() % 3) + random.nextInt(20) + (random.nextInt(9) == 0 ? 500 : 0);
            case 6: return 500 - 7 * model.size() + (random.nextInt(12) == 0 ? 90 : 0);
            case 7: return model.size() % 13 == 6 ? 1000000 : 1 + random.nextInt(2);
            default: return random.nextInt(3) == 0 ? 5 : 100 + random.nextInt(30);
        }
    }

    private long call(String method, int a, int b) {
        switch (method) {
            case "setPeriod": return program.setPeriod(a);
            case "setMode": return program.setMode(a);
            case "setRounds": return program.setRounds(a);
            case "append": return program.append(a);
            case "appendMissing": return program.appendMissing();
            case "set": return program.set(a, b);
            case "setMissing": return program.setMissing(a);
            case "setDays": return program.setDays(a, b);
            case "removeLast": return program.removeLast();
            case "fill": return program.fill();
            case "size": return program.size();
            case "value": return program.value(a);
            case "missing": return program.missing(a);
            case "canDecompose": return program.canDecompose() ? 1 : 0;
            case "firstTrend": return program.firstTrend(a);
            case "deviation": return program.deviation(a);
            case "weight": return program.weight(a);
            case "spread": return program.spread();
            case "factor": return program.factor(a);
            case "adjusted": return program.adjusted(a);
            case "trend": return program.trend(a);
            case "irregular": return program.irregular(a);
            case "outlierCount": return program.outlierCount();
            case "outlier": return program.outlier(a);
            case "seasonOfRank": return program.seasonOfRank(a);
            case "forecast": return program.forecast(a);
            case "daysEffect": return program.daysEffect();
            case "removeDays": return program.removeDays();
            case "undo": return program.undo();
            case "digest": return program.digest();
            default: throw new AssertionError(method);
        }
    }
}
