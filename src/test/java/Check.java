import java.util.function.LongSupplier;
import java.util.function.Supplier;
import java.util.function.ToLongFunction;

/** What the tests share: comparing, counting what is wrong, and typing texts. */
final class Check {
    static final long STATE = Long.MIN_VALUE + 1;
    static final long ARGUMENT = Long.MIN_VALUE + 2;
    static final long UNSUPPORTED = Long.MIN_VALUE + 3;

    private int right = 0;
    private int wrong = 0;
    private String sentence = "";

    /** Runs tests one after the other; one that an exception ends is wrong, and the others still run. */
    void each(Runnable... tests) {
        for (Runnable test : tests) {
            sentence = "";
            try {
                test.run();
            } catch (RuntimeException e) {
                same("a call that was to answer", "throws." + e.getClass().getSimpleName(), "no exception");
            }
        }
    }

    /** From here on, what is wrong is told with the sentence of the document that it breaks. */
    void sentence(String words) {
        sentence = "\"" + words + "\": ";
    }

    void eq(String what, long got, long want) {
        same(what, name(got), name(want));
    }

    void same(String what, String got, String want) {
        if (got.equals(want)) {
            right++;
            return;
        }
        wrong++;
        System.out.println(sentence + what + " answered " + got + ", due is " + want);
    }

    void yes(String what, boolean got) {
        eq(what, got ? 1 : 0, 1);
    }

    void no(String what, boolean got) {
        eq(what, got ? 1 : 0, 0);
    }

    void call(String what, LongSupplier call, long want) {
        eq(what, answer(call), want);
    }

    /** A text that is no agreement, and its fault. */
    void fault(String text, int want) {
        PledgeMonitor x = new PledgeMonitor();
        type(x, text);
        call("begin() of " + text, x::begin, ARGUMENT);
        eq("fault() of " + text, x.fault(), want);
        eq("erase() of " + text, x.erase(), text.length());
        eq("today() of " + text, x.today(), -1);
    }

    /** A text that is an agreement, and how many clauses it has. */
    void fine(String text, int clauses) {
        PledgeMonitor x = new PledgeMonitor();
        type(x, text);
        call("begin() of " + text, x::begin, clauses);
        eq("fault() of " + text, x.fault(), -1);
        eq("erase() of " + text, x.erase(), 0);
        eq("today() of " + text, x.today(), 0);
    }

    /** A call that answers as a refused one does: of two objects alike, the one it is made on stays so. */
    void refused(String what, Supplier<PledgeMonitor> maker, ToLongFunction<PledgeMonitor> call, long want) {
        PledgeMonitor told = maker.get();
        PledgeMonitor untold = maker.get();
        call(what, () -> call.applyAsLong(told), want);
        same("all behind " + what, useUp(told), useUp(untold));
    }

    /** Ends the test: with exit code 1 if anything was wrong, or nothing was looked at. */
    void end() {
        System.out.println(right + " answers right, " + wrong + " wrong");
        System.exit(wrong == 0 && right > 0 ? 0 : 1);
    }

    static long answer(LongSupplier call) {
        try {
            return call.getAsLong();
        } catch (IllegalStateException e) {
            return STATE;
        } catch (IllegalArgumentException e) {
            return ARGUMENT;
        } catch (UnsupportedOperationException e) {
            return UNSUPPORTED;
        }
    }

    static String name(long answer) {
        if (answer == STATE) {
            return "throws.IllegalStateException";
        }
        if (answer == ARGUMENT) {
            return "throws.IllegalArgumentException";
        }
        if (answer == UNSUPPORTED) {
            return "throws.UnsupportedOperationException";
        }
        return Long.toString(answer);
    }

    static long row(String text, int from) {
        long row = 0;
        for (int i = 0; i < 8 && from + i < text.length(); i++) {
            row |= (long) text.charAt(from + i) << (8 * i);
        }
        return row;
    }

    static boolean type(PledgeMonitor monitor, String text) {
        boolean typed = true;
        for (int from = 0; from < text.length(); from += 8) {
            typed &= monitor.type(row(text, from));
        }
        return typed;
    }

    /** A new object with free days on which an agreement runs. */
    static PledgeMonitor begun(String text, int... freeDays) {
        PledgeMonitor monitor = new PledgeMonitor();
        for (int day : freeDays) {
            monitor.free(day);
        }
        begin(monitor, text);
        return monitor;
    }

    static int begin(PledgeMonitor monitor, String text) {
        monitor.erase();
        type(monitor, text);
        return monitor.begin();
    }

    /** All that can be told of the state by calls that do no more than that. */
    static String seen(PledgeMonitor x) {
        StringBuilder seen = new StringBuilder("day " + x.today() + " duties");
        for (int i = 0; i < 9 && x.duty(i) != PledgeMonitor.NONE; i++) {
            seen.append(' ').append(x.duty(i));
        }
        seen.append(" counts ").append(x.count(0)).append(' ').append(x.count(1)).append(' ').append(x.count(2));
        seen.append(" breaches");
        for (int clause = 0; clause < 10; clause++) {
            seen.append(' ').append(x.breaches(clause));
        }
        for (int party = 0; party < 3; party++) {
            seen.append(" party ").append(party).append(" owes ").append(x.owed(party, (party + 1) % 3));
            seen.append(' ').append(x.owed(party, (party + 2) % 3)).append(" may");
            for (int kind = 0; kind < 5; kind++) {
                seen.append(' ').append(x.may(party, kind));
            }
        }
        return seen.toString();
    }

    /** All that is in an object: its states, its text and its free days; it is used up by that. */
    static String useUp(PledgeMonitor x) {
        StringBuilder all = new StringBuilder(seen(x));
        for (int day = 0; day < 2; day++) {
            all.append("\n  nextDay ").append(name(answer(x::nextDay))).append(": ").append(seen(x));
        }
        int back = 0;
        while (back < 5 && x.undo()) {
            back++;
            all.append("\n  undo: ").append(seen(x));
        }
        while (back < 13 && x.undo()) {
            back++;
        }
        all.append("\n  undo ").append(back).append(" times");
        all.append("\n  begin ").append(name(answer(x::begin))).append(" fault ").append(x.fault());
        all.append(" text ").append(x.erase()).append("\n  then: ").append(seen(x));
        x.stop();
        all.append("\n  free");
        for (int d = 0; d <= 60; d++) {
            all.append(x.free(d) ? " 0" : " 1");
        }
        return all.toString();
    }

    static void days(PledgeMonitor monitor, int many) {
        for (int i = 0; i < many; i++) {
            monitor.nextDay();
        }
    }

    static void events(PledgeMonitor monitor, int party, int kind, int many) {
        for (int i = 0; i < many; i++) {
            monitor.event(party, kind);
        }
    }
}
