import java.util.ArrayList;
import java.util.List;
import java.util.function.Consumer;
import java.util.function.ToLongFunction;

/** Two objects with the same past: one is called once more, and all that can be seen must be the same of both. */
final class Twin {
    private Twin() {
    }

    /** A call that is refused, or finds something: nothing is changed but status(), and that by a FINDING alone. */
    static void refused(Consumer<TellerDays> past, String name, ToLongFunction<TellerDays> call, long want) {
        TellerDays called = after(past);
        TellerDays spared = after(past);
        Check.due(name, call.applyAsLong(called), want);
        boolean found = want <= Check.NULL && want >= Check.STORE;
        Check.due(name + ": status()", called.status(), found ? Check.NULL + 1 - want : spared.status());
        same(name, called, spared);
    }

    /** A call that is answered, and changes nothing. */
    static void foretold(Consumer<TellerDays> past, String name, ToLongFunction<TellerDays> call) {
        TellerDays called = after(past);
        long answer = call.applyAsLong(called);
        Check.that(name + " is answered: " + answer, answer >= Check.NONE);
        same(name, called, after(past));
    }

    private static TellerDays after(Consumer<TellerDays> past) {
        TellerDays x = new TellerDays();
        past.accept(x);
        return x;
    }

    private static void same(String name, TellerDays called, TellerDays spared) {
        List<String> one = allOf(called);
        List<String> other = allOf(spared);
        for (int k = 0; k < one.size() && k < other.size(); k++) {
            if (!one.get(k).equals(other.get(k))) {
                Check.that(name + " made " + other.get(k) + " to " + one.get(k), false);
                return;
            }
        }
        Check.due(name + ": what can be seen", one.size(), other.size());
    }

    /** All that can be seen; the looking itself uses the object up. */
    private static List<String> allOf(TellerDays x) {
        List<String> seen = new ArrayList<>();
        told(seen, "fault()", x.fault());
        for (int i = 0; i < 7; i++) {
            told(seen, "trace(" + i + ")", x.trace(i));
        }
        told(seen, "count(0)", x.count(0));
        told(seen, "count(7)", x.count(7));
        lookAtBank(x, seen);
        while (x.undo() != Check.STATE) {
            lookAtCourse(x, seen);
        }
        for (int k = 0; k < 2; k++) {
            told(seen, "restore(" + k + ")", x.restore(k));
            lookAtBank(x, seen);
        }
        lookAtTape(x, seen);
        lookAtRows(x, seen);
        return seen;
    }

    private static void told(List<String> seen, String call, long answer) {
        seen.add(call + " = " + answer);
    }

    private static void lookAtBank(TellerDays x, List<String> seen) {
        for (int t = 0; t < 4; t++) {
            told(seen, "kind(" + t + ")", x.kind(t));
            told(seen, "DAYS of " + t, x.teller(t, 0));
            told(seen, "CARE of " + t, x.teller(t, 1));
            told(seen, "ahead(" + t + ", 1)", x.ahead(t, 1));
        }
        for (int p = 0; p < 7; p++) {
            told(seen, "SUM of " + p, x.paper(p, 0));
            told(seen, "a drawing: " + p, x.paper(p, 1));
        }
        told(seen, "infant()", x.infant());
        told(seen, "most()", x.most());
        lookAtCourse(x, seen);
    }

    private static void lookAtCourse(TellerDays x, List<String> seen) {
        for (int what = 1; what < 7; what++) {
            told(seen, "count(" + what + ")", x.count(what));
        }
        for (int t = 0; t < 4; t++) {
            for (int what = 2; what < 5; what++) {
                told(seen, "teller(" + t + ", " + what + ")", x.teller(t, what));
            }
        }
        for (int k = 0; k < 7; k++) {
            told(seen, "queue(" + k + ")", x.queue(k));
        }
    }

    /** What is on the tape is seen by what is read with an end behind it. */
    private static void lookAtTape(TellerDays x, List<String> seen) {
        told(seen, "bank() of what is fed", Check.read(x, "1,1;"));
        told(seen, "DAYS that were fed", x.teller(0, 0));
    }

    /** What ROWS hold is seen by TELLERS who have 1 to 4 LEFT. */
    private static void lookAtRows(TellerDays x, List<String> seen) {
        Check.read(x, "b0,20;y1,1;y2,1;y3,1;y4,1;");
        for (int row = 0; row < 8; row++) {
            told(seen, "LANES of " + row + " and 0", x.copy(row, 0, 0, 0, 0));
        }
        for (int row = 0; row < 8; row++) {
            for (int i = 0; i < 4; i++) {
                for (int t = 0; t < 4; t++) {
                    told(seen, "stayed(" + t + ", " + row + ", " + i + ", 1)", x.stayed(t, row, i, 1));
                }
            }
            told(seen, "drop(" + row + ")", x.drop(row));
        }
    }
}
