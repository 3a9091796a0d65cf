import java.util.ArrayList;
import java.util.List;
import java.util.function.ToLongFunction;

/** The boundary cases of the section UNDO and of promise 30: the empty, the full and the overfull stack. */
public final class UndoBoundsTest {
    private static final Check check = new Check();

    public static void main(String[] args) {
        for (int changes = 0; changes <= 12; changes++) {
            latestFour(changes);
        }
        droppedStatesStayDropped();
        savedBeforeTheCall();
        savedWithoutAChange();
        wholeState();
        savedStatesKeepTheirEntries();
        boundsOfTheRestoredMode();
        fullAndEmptySeries();
        undoIsNotUndoable();
        refusedAndReadingCallsBetween();
        check.finish();
    }

    // So many entries, with so many saved states: the digest holds both numbers.
    private static SeasonalAdjuster reachedAnew(int changes, int left) {
        SeasonalAdjuster x = new SeasonalAdjuster();
        for (int i = 1; i <= changes; i++) {
            x.append(i);
        }
        for (int i = 0; i < 4; i++) {
            x.setRounds(2);
        }
        for (int i = 4; i > left; i--) {
            x.undo();
        }
        return x;
    }

    private static void latestFour(int changes) {
        SeasonalAdjuster x = new SeasonalAdjuster();
        for (int i = 1; i <= changes; i++) {
            x.append(i);
        }
        int saved = Math.min(changes, 4);
        String what = changes + " changes: ";
        check.same(what + "digest", x.digest(), reachedAnew(changes, saved).digest());
        for (int undone = 1; undone <= saved; undone++) {
            check.same(what + "undo", x.undo(), saved - undone);
            check.same(what + "size", x.size(), changes - undone);
            check.same(what + "digest", x.digest(), reachedAnew(changes - undone, saved - undone).digest());
        }
        check.illegalState(what + "undo of the empty stack", x::undo);
        check.same(what + "size at the bottom", x.size(), changes - saved);
        check.illegalState(what + "undo of the empty stack again", x::undo);
    }

    private static void droppedStatesStayDropped() {
        SeasonalAdjuster x = new SeasonalAdjuster();
        for (int i = 1; i <= 5; i++) {
            x.append(i);
        }
        check.same("one back", x.undo(), 3);
        x.append(50);
        check.same("size", x.size(), 5);
        check.same("back to 4 entries", x.undo(), 3);
        check.same("value(3)", x.value(3), 4);
        check.same("back to 3 entries", x.undo(), 2);
        check.same("back to 2 entries", x.undo(), 1);
        check.same("back to 1 entry", x.undo(), 0);
        check.same("size at the bottom", x.size(), 1);
        check.illegalState("the state of the first append is dropped", x::undo);
        check.same("a change from the bottom", x.append(60), 1);
        check.same("and back", x.undo(), 0);
        check.same("size at the bottom again", x.size(), 1);
    }

    private static void savedBeforeTheCall() {
        SeasonalAdjuster x = new SeasonalAdjuster();
        x.append(7);
        x.set(0, 8);
        x.set(0, 9);
        x.undo();
        check.same("one back", x.value(0), 8);
        x.undo();
        check.same("two back", x.value(0), 7);
        x.undo();
        check.same("three back", x.size(), 0);
    }

    private static void savedWithoutAChange() {
        saved("setPeriod(2)", x -> x.setPeriod(2));
        saved("setMode(0)", x -> x.setMode(0));
        saved("setRounds(2)", x -> x.setRounds(2));
        saved("set(0, 10)", x -> x.set(0, 10));
        saved("setDays(0, 20)", x -> x.setDays(0, 20));
        saved("fill()", SeasonalAdjuster::fill);
        SeasonalAdjuster flat = Make.of(2, 0, 2, 7, 7, 7, 7, 7);
        Make.emptyStack(flat);
        flat.setDays(0, 3);
        check.same("removeDays() of no effect", flat.removeDays(), 0);
        check.same("removeDays() is saved", flat.undo(), 1);
        check.same("and setDays() below it", flat.undo(), 0);
    }

    private static void saved(String what, ToLongFunction<SeasonalAdjuster> call) {
        SeasonalAdjuster x = Make.withEmptyStack();
        long before = x.digest();
        for (int i = 0; i < 6; i++) {
            call.applyAsLong(x);
        }
        for (int left = 3; left >= 0; left--) {
            check.same(what + " is saved", x.undo(), left);
        }
        check.same(what + ": the digest", x.digest(), before);
        check.illegalState(what + ": four are kept", x::undo);
    }

    private static void wholeState() {
        restored("settings", List.of(x -> x.setPeriod(4), x -> x.setMode(1), x -> x.setRounds(5), x -> x.set(8, 1)));
        restored("entries", List.of(x -> x.append(1), SeasonalAdjuster::appendMissing, x -> x.setMissing(0),
                SeasonalAdjuster::fill));
        restored("days", List.of(x -> x.setDays(4, 21), SeasonalAdjuster::removeDays, x -> x.setDays(4, 20),
                SeasonalAdjuster::removeLast));
        restored("one entry", List.of(x -> x.set(0, 99), x -> x.setMissing(0), x -> x.setDays(0, 31),
                x -> x.set(0, -99)));
    }

    private static void restored(String what, List<ToLongFunction<SeasonalAdjuster>> calls) {
        SeasonalAdjuster x = Make.withEmptyStack();
        List<Long> digests = new ArrayList<>();
        for (ToLongFunction<SeasonalAdjuster> call : calls) {
            digests.add(x.digest());
            call.applyAsLong(x);
        }
        for (int left = calls.size() - 1; left >= 0; left--) {
            check.same(what + ": undo", x.undo(), left);
            check.same(what + ": digest with " + left + " below", x.digest(), digests.get(left));
        }
    }

    // What is done after an undo must not reach the states that are still saved.
    private static void savedStatesKeepTheirEntries() {
        SeasonalAdjuster x = Make.withEmptyStack();
        long beginning = x.digest();
        x.set(0, 1);
        x.set(0, 2);
        x.undo();
        x.setMissing(0);
        x.setDays(0, 1);
        check.same("undo", x.undo(), 2);
        check.same("undo", x.undo(), 1);
        check.same("value(0) of before", x.value(0), 1);
        check.same("undo", x.undo(), 0);
        check.same("value(0) of the beginning", x.value(0), 10);
        check.same("digest of the beginning", x.digest(), beginning);
    }

    private static void boundsOfTheRestoredMode() {
        SeasonalAdjuster x = Make.of(2, 0, 2, 5);
        x.setMode(1);
        x.setMode(0);
        check.same("additive: append(0)", x.append(0), 1);
        x.undo();
        x.undo();
        check.illegalArgument("ratios again: append(0)", () -> x.append(0));
        check.illegalArgument("ratios again: set(0, -1)", () -> x.set(0, -1));
        x.undo();
        check.same("additive again: set(0, -1)", x.set(0, -1), 0);
        check.illegalState("additive again: setMode(1)", () -> x.setMode(1));
        x.undo();
        check.same("without the -1: setMode(1)", x.setMode(1), 0);
    }

    private static void fullAndEmptySeries() {
        SeasonalAdjuster full = Make.full();
        check.illegalState("full: append", () -> full.append(1));
        full.removeLast();
        check.same("full again: undo", full.undo(), 3);
        check.same("full again: size", full.size(), 72);
        check.same("full again: value(71)", full.value(71), 71);
        check.illegalState("full again: append", () -> full.append(1));
        full.undo();
        check.same("room again: append", full.append(-8), 71);
        check.same("room again: value(71)", full.value(71), -8);

        SeasonalAdjuster empty = new SeasonalAdjuster();
        empty.append(1);
        empty.removeLast();
        check.same("empty: undo", empty.undo(), 1);
        check.same("empty: value(0)", empty.value(0), 1);
        check.same("empty: undo", empty.undo(), 0);
        check.same("empty: size", empty.size(), 0);
        check.illegalState("empty: removeLast", empty::removeLast);
        check.outOfBounds("empty: value(0)", () -> empty.value(0));
    }

    private static void undoIsNotUndoable() {
        SeasonalAdjuster x = new SeasonalAdjuster();
        x.append(1);
        x.append(2);
        check.same("one back", x.undo(), 1);
        check.same("another back, not forth", x.undo(), 0);
        check.same("size", x.size(), 0);
        check.illegalState("nothing is left", x::undo);
        check.same("digest", x.digest(), new SeasonalAdjuster().digest());
    }

    private static void refusedAndReadingCallsBetween() {
        SeasonalAdjuster x = new SeasonalAdjuster();
        x.append(1);
        check.illegalArgument("append(1000001)", () -> x.append(1000001));
        check.outOfBounds("set(1, 1)", () -> x.set(1, 1));
        x.size();
        x.value(0);
        x.digest();
        x.append(2);
        check.illegalState("spread()", x::spread);
        check.same("undo", x.undo(), 1);
        check.same("size", x.size(), 1);
        check.same("undo", x.undo(), 0);
        check.same("size", x.size(), 0);
    }
}
