import java.util.function.LongSupplier;

/** What the tests share: comparing, counting what is wrong, and typing texts. */
final class Check {
    static final long STATE = Long.MIN_VALUE + 1;
    static final long ARGUMENT = Long.MIN_VALUE + 2;
    static final long UNSUPPORTED = Long.MIN_VALUE + 3;

    private int right = 0;
    private int wrong = 0;

    void eq(String what, long got, long want) {
        if (got == want) {
            right++;
            return;
        }
        wrong++;
        System.out.println(what + " answered " + name(got) + ", due is " + name(want));
    }

    void yes(String what, boolean got) {
        eq(what, got ? 1 : 0, 1);
    }

    void no(String what, boolean got) {
        eq(what, got ? 1 : 0, 0);
    }

    void call(String what, LongSupplier call, long want) {
        eq(what, answer(call), want);
    }

    /** Ends the test: with exit code 1 if anything was wrong, or nothing was looked at. */
    void end() {
        System.out.println(right + " answers right, " + wrong + " wrong");
        System.exit(wrong == 0 && right > 0 ? 0 : 1);
    }

    static long answer(LongSupplier call) {
        try {
            return call.getAsLong();
        } catch (IllegalStateException e) {
            return STATE;
        } catch (IllegalArgumentException e) {
            return ARGUMENT;
        } catch (UnsupportedOperationException e) {
            return UNSUPPORTED;
        }
    }

    static String name(long answer) {
        if (answer == STATE) {
            return "throws.IllegalStateException";
        }
        if (answer == ARGUMENT) {
            return "throws.IllegalArgumentException";
        }
        if (answer == UNSUPPORTED) {
            return "throws.UnsupportedOperationException";
        }
        return Long.toString(answer);
    }

    static long row(String text, int from) {
        long row = 0;
        for (int i = 0; i < 8 && from + i < text.length(); i++) {
            row |= (long) text.charAt(from + i) << (8 * i);
        }
        return row;
    }

    static boolean type(PledgeMonitor monitor, String text) {
        boolean typed = true;
        for (int from = 0; from < text.length(); from += 8) {
            typed &= monitor.type(row(text, from));
        }
        return typed;
    }

    /** A new object with free days on which an agreement runs. */
    static PledgeMonitor begun(String text, int... freeDays) {
        PledgeMonitor monitor = new PledgeMonitor();
        for (int day : freeDays) {
            monitor.free(day);
        }
        begin(monitor, text);
        return monitor;
    }

    static int begin(PledgeMonitor monitor, String text) {
        monitor.erase();
        type(monitor, text);
        return monitor.begin();
    }

    static void days(PledgeMonitor monitor, int many) {
        for (int i = 0; i < many; i++) {
            monitor.nextDay();
        }
    }

    static void events(PledgeMonitor monitor, int party, int kind, int many) {
        for (int i = 0; i < many; i++) {
            monitor.event(party, kind);
        }
    }
}
