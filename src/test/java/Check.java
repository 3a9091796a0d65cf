import java.util.function.IntToLongFunction;
import java.util.function.LongSupplier;

/** Counts and prints the answers that are not the ones due. */
final class Check {
    private int checks = 0;
    private int wrong = 0;

    void same(String what, long got, long due) {
        checks++;
        if (got != due) {
            complain(what + " answered " + got + ", due is " + due);
        }
    }

    void same(String what, String got, String due) {
        checks++;
        if (!got.equals(due)) {
            complain(what + " answered " + got + ", due is " + due);
        }
    }

    /** The answers for the arguments from on, one after the other. */
    void row(String what, IntToLongFunction reader, int from, long... due) {
        for (int i = 0; i < due.length; i++) {
            int argument = from + i;
            same(what + "(" + argument + ")", answer(() -> reader.applyAsLong(argument)), Long.toString(due[i]));
        }
    }

    void isTrue(String what, boolean holds) {
        same(what, holds ? 1 : 0, 1);
    }

    void illegalArgument(String what, LongSupplier call) {
        same(what, answer(call), "throws.IllegalArgumentException");
    }

    void illegalState(String what, LongSupplier call) {
        same(what, answer(call), "throws.IllegalStateException");
    }

    void outOfBounds(String what, LongSupplier call) {
        same(what, answer(call), "throws.IndexOutOfBoundsException");
    }

    /** The number, or throws. and the name of exactly the class that was thrown. */
    static String answer(LongSupplier call) {
        try {
            return Long.toString(call.getAsLong());
        } catch (RuntimeException e) {
            return "throws." + e.getClass().getSimpleName();
        }
    }

    private void complain(String line) {
        wrong++;
        if (wrong <= 20) {
            System.out.println(line);
        }
    }

    void finish() {
        System.out.println(checks + " checks, " + wrong + " wrong");
        if (wrong != 0) {
            System.exit(1);
        }
    }
}
