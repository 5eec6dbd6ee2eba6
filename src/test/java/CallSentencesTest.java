import java.util.List;
import java.util.function.Supplier;

/**
 * The sentences of the document on calls that are refused, on undo and on what can be asked that
 * name a boundary case, each with a test of its own: of the head and the end of "Terms", and of
 * promises 6 and 10 to 16.
 */
final class CallSentencesTest {
    private static final Check check = new Check();
    private static final Supplier<PledgeMonitor> FRESH = CallSentencesTest::typedInto;
    private static final Supplier<PledgeMonitor> BUSY = CallSentencesTest::busy;

    public static void main(String[] args) {
        check.each(
                CallSentencesTest::upTo512Calls,
                CallSentencesTest::theOneNamedFirst,
                CallSentencesTest::refusedTypeChangesNothing,
                CallSentencesTest::throwingBeginChangesNothing,
                CallSentencesTest::throwingEventChangesNothing,
                CallSentencesTest::throwingNextDayChangesNothing,
                CallSentencesTest::throwingSearchChangesNothing,
                CallSentencesTest::otherRefusedCallsChangeNothing,
                CallSentencesTest::stopEnds,
                CallSentencesTest::doesNotThrowKeeps,
                CallSentencesTest::onlyTwelve,
                CallSentencesTest::beginAndStopKeepNone,
                CallSentencesTest::notKeptAnyMore,
                CallSentencesTest::falseWhenNone,
                CallSentencesTest::today,
                CallSentencesTest::duty,
                CallSentencesTest::count,
                CallSentencesTest::breaches,
                CallSentencesTest::may,
                CallSentencesTest::mayWithoutSuch,
                CallSentencesTest::owed);
        check.end();
    }

    /** A text and free days, and no agreement. */
    private static PledgeMonitor typedInto() {
        PledgeMonitor x = new PledgeMonitor();
        x.free(2);
        x.free(60);
        Check.type(x, "s>!Aa2;s>~Bb4");
        return x;
    }

    /** Something of all that an object can have, and three states that are kept. */
    private static PledgeMonitor busy() {
        PledgeMonitor x = Check.begun("s>!Aa3;s>~Bb9;s>?Cc9;x1>$BA2;Cd>!Ca0;x4>$CA1;s>~Cc9", 2, 3);
        x.event(1, 1);
        x.nextDay();
        x.event(2, 3);
        Check.type(x, "s>!Aa1;s>$AB3");
        return x;
    }

    private static void upTo512Calls() {
        check.sentence("An object is used for at most 512 calls after it has been made");
        PledgeMonitor x = new PledgeMonitor();
        x.type(Check.row("Aa>$AB2", 0));
        check.call("begin(), the second call", x::begin, 1);
        for (int i = 0; i < 255; i++) {
            check.call("event(0, 0)", () -> x.event(0, 0), 0);
            check.eq("owed(0, 1)", x.owed(0, 1), 2 * i + 2);
        }
        PledgeMonitor y = new PledgeMonitor();
        for (int i = 0; i < 255; i++) {
            check.yes("type", y.type(Check.row("s>", 0)));
            check.eq("erase()", y.erase(), 2);
        }
        y.type(Check.row("s>=0", 0));
        check.call("begin(), the 512th call", y::begin, Check.ARGUMENT);
        PledgeMonitor z = Check.begun("Aa>$AB1");
        for (int i = 0; i < 254; i++) {
            check.call("event(0, 0)", () -> z.event(0, 0), 0);
            check.yes("undo()", z.undo());
        }
        check.eq("owed(0, 1) behind as many undo() as events", z.owed(0, 1), 0);
    }

    private static void theOneNamedFirst() {
        check.sentence("Calls that name exceptions throw them as their comments say, the one named first when several would do.");
        PledgeMonitor none = new PledgeMonitor();
        check.call("event(-1, 5) without an agreement", () -> none.event(-1, 5), Check.STATE);
        check.call("course(3, 0) without an agreement", () -> none.course(3, 0), Check.STATE);
        check.call("threat(3, 0) without an agreement", () -> none.threat(3, 0), Check.STATE);
        PledgeMonitor x = Check.begun("Aa>!Aa0;x0>!Aa9;x0>!Aa9;Ab>!Bb9");
        Check.days(x, 60);
        Check.events(x, 0, 1, 7);
        x.event(0, 0);
        check.call("nextDay() on day 60 that would be full", x::nextDay, Check.STATE);
        check.call("event(0, 5) where another one would be full", () -> x.event(0, 5), Check.ARGUMENT);
        check.call("event(0, 1) that is full", () -> x.event(0, 1), Check.UNSUPPORTED);
        check.call("course(3, 3) on day 60", () -> x.course(3, 3), Check.ARGUMENT);
        PledgeMonitor y = new PledgeMonitor();
        Check.type(y, "s>!Aa9" + ";s>=0".repeat(8) + ";s>=9");
        check.call("begin() of a round that would be full", y::begin, Check.ARGUMENT);
    }

    private static void refusedTypeChangesNothing() {
        check.sentence("A call that throws, or is refused, changes nothing: type");
        for (Supplier<PledgeMonitor> maker : List.of(FRESH, BUSY)) {
            check.refused("type of a character that can't be", maker, x -> x.type(' ') ? 1 : 0, 0);
            check.refused("type of ; and a character that can't be", maker, x -> x.type(0x203bL) ? 1 : 0, 0);
            check.refused("type of seven and one that can't be", maker, x -> x.type(0x7f313b31613b313bL) ? 1 : 0, 0);
        }
        Supplier<PledgeMonitor> nearlyFull = () -> {
            PledgeMonitor x = new PledgeMonitor();
            Check.type(x, "Aa[AB1]>!Aa1;".repeat(8) + "Aa>!Aa1;Aa>$AB1");
            return x;
        };
        check.refused("type of two where one has room", nearlyFull, x -> x.type(0x3b3bL) ? 1 : 0, 0);
        check.refused("type of eight where one has room", nearlyFull, x -> x.type(0x3b3b3b3b3b3b3b3bL) ? 1 : 0, 0);
    }

    private static void throwingBeginChangesNothing() {
        check.sentence("A call that throws, or is refused, changes nothing, but for what fault() tells: begin");
        String[] none = {"", "q", "s>!Ca1;q", "s>$AB9;s>!Ca", "s>!Ca1;s>=2", "s>!Ca1;s>=1"};
        for (String text : none) {
            check.refused("begin() of " + text, () -> with(new PledgeMonitor(), text), PledgeMonitor::begin, Check.ARGUMENT);
            check.refused("begin() of " + text, () -> with(busy(), text), PledgeMonitor::begin, Check.ARGUMENT);
        }
        for (String text : new String[] {"s>?Ca9;s>$AB9" + ";s>=0".repeat(8), "s>!Ca9" + ";s>=0".repeat(8)}) {
            check.refused("begin() of " + text, () -> with(new PledgeMonitor(), text), PledgeMonitor::begin, Check.UNSUPPORTED);
            check.refused("begin() of " + text, () -> with(busy(), text), PledgeMonitor::begin, Check.UNSUPPORTED);
        }
        PledgeMonitor x = with(new PledgeMonitor(), "s>q");
        check.call("begin()", x::begin, Check.ARGUMENT);
        check.eq("fault() tells of it", x.fault(), 2);
    }

    private static PledgeMonitor with(PledgeMonitor x, String text) {
        x.erase();
        Check.type(x, text);
        return x;
    }

    private static void throwingEventChangesNothing() {
        check.sentence("A call that throws, or is refused, changes nothing: event");
        check.refused("event(0, 0)", FRESH, x -> x.event(0, 0), Check.STATE);
        check.refused("event(3, 0)", BUSY, x -> x.event(3, 0), Check.ARGUMENT);
        check.refused("event(0, -1)", BUSY, x -> x.event(0, -1), Check.ARGUMENT);
        // A breach, a debt, a fulfilment and a power that is spent come before what is full.
        Supplier<PledgeMonitor> near = () -> {
            PledgeMonitor x = Check.begun("s>~Aa9;s>!Aa9;f1>$AB5;x0>$AC5;Ab>?Bb9;Aa>$BC5;Ac>?Aa9;f1>=4;Aa>~Cc9");
            Check.events(x, 0, 1, 8);
            x.nextDay();
            return x;
        };
        check.refused("event(0, 0) with a breach", near, x -> x.event(0, 0), Check.UNSUPPORTED);
        Supplier<PledgeMonitor> banned = () -> {
            PledgeMonitor x = Check.begun("s>~Aa9;s>?Aa9;s>!Aa9;f2>~Bb9;Ab>~Cc9;Aa>$AB5;f2>=5");
            Check.events(x, 0, 1, 7);
            x.nextDay();
            return x;
        };
        check.refused("event(0, 0) with a power", banned, x -> x.event(0, 0), Check.UNSUPPORTED);
    }

    private static void throwingNextDayChangesNothing() {
        check.sentence("A call that throws, or is refused, changes nothing: nextDay");
        check.refused("nextDay()", FRESH, PledgeMonitor::nextDay, Check.STATE);
        Supplier<PledgeMonitor> last = () -> {
            PledgeMonitor x = Check.begun("Aa>!Aa0;x0>$AB1;Aa>~Ab0");
            Check.days(x, 60);
            x.event(0, 0);
            return x;
        };
        check.refused("nextDay() on day 60", last, PledgeMonitor::nextDay, Check.STATE);
        Supplier<PledgeMonitor> near = () -> {
            PledgeMonitor x = Check.begun("s>!Aa0;s>!Ba0;x0>$AB5;x0>?Cc9;x1>?Cc9;s>~Ab0;Ac>?Ad0;s>?Bd0");
            Check.events(x, 0, 2, 6);
            return x;
        };
        check.refused("nextDay() that is full", near, PledgeMonitor::nextDay, Check.UNSUPPORTED);
    }

    private static void throwingSearchChangesNothing() {
        check.sentence("A call that throws, or is refused, changes nothing: course, threat");
        check.refused("course(0, 1)", FRESH, x -> x.course(0, 1), Check.STATE);
        check.refused("threat(0, 1)", FRESH, x -> x.threat(0, 1), Check.STATE);
        check.refused("course(3, 1)", BUSY, x -> x.course(3, 1), Check.ARGUMENT);
        check.refused("threat(0, 3)", BUSY, x -> x.threat(0, 3), Check.ARGUMENT);
        check.refused("course(0, 2), which only tells", BUSY, x -> x.course(0, 2), 0);
        check.refused("threat(0, 2), which only tells", BUSY, x -> x.threat(0, 2), -1);
    }

    private static void otherRefusedCallsChangeNothing() {
        check.sentence("A call that throws, or is refused, changes nothing: free, stop, undo");
        check.refused("free(61)", FRESH, x -> x.free(61) ? 1 : 0, 0);
        check.refused("free(-1)", FRESH, x -> x.free(-1) ? 1 : 0, 0);
        check.refused("free(2) while it runs", BUSY, x -> x.free(2) ? 1 : 0, 0);
        check.refused("free(1) while it runs", BUSY, x -> x.free(1) ? 1 : 0, 0);
        check.refused("stop() of nothing", FRESH, x -> x.stop() ? 1 : 0, 0);
        check.refused("undo() of nothing", FRESH, x -> x.undo() ? 1 : 0, 0);
        check.refused("undo() behind begin()", () -> Check.begun("s>!Aa3;s>$AB1", 1), x -> x.undo() ? 1 : 0, 0);
    }

    private static void stopEnds() {
        check.sentence("The agreement ends: there is none. Answers whether there was one.");
        PledgeMonitor x = typedInto();
        check.no("stop() without one", x.stop());
        check.call("begin()", x::begin, 2);
        check.yes("stop() of one", x.stop());
        check.no("stop() again", x.stop());
        check.eq("today()", x.today(), -1);
        check.call("nextDay()", x::nextDay, Check.STATE);
        check.yes("free(5) is not refused", x.free(5));
        PledgeMonitor y = busy();
        check.yes("stop() of a busy one", y.stop());
        check.same("nothing of it is seen", Check.seen(y), Check.seen(new PledgeMonitor()));
        check.eq("its text stays", y.erase(), 13);
    }

    private static void doesNotThrowKeeps() {
        check.sentence("Each event() or nextDay() that does not throw keeps the state that was before it");
        PledgeMonitor x = Check.begun("Aa>!Bb0;Aa>~Ac0;Aa>?Ac9;Ab>$AB1;x0>$BA1");
        String[] before = new String[4];
        before[0] = Check.seen(x);
        x.event(2, 4);
        before[1] = Check.seen(x);
        x.event(0, 0);
        before[2] = Check.seen(x);
        x.event(0, 2);
        before[3] = Check.seen(x);
        x.nextDay();
        check.call("an event that throws", () -> x.event(0, 5), Check.ARGUMENT);
        for (int i = 3; i >= 0; i--) {
            check.yes("undo()", x.undo());
            check.same("the state before call " + i, Check.seen(x), before[i]);
        }
        check.no("undo() once more", x.undo());
    }

    private static void onlyTwelve() {
        check.sentence("only the latest 12 are kept");
        for (int many : new int[] {1, 11, 12, 13, 23, 24, 25, 40}) {
            PledgeMonitor x = Check.begun("Aa>$AB1");
            for (int i = 0; i < many; i++) {
                if (i % 3 == 2) {
                    x.nextDay();
                } else {
                    x.event(0, 0);
                }
            }
            int back = 0;
            while (back < 20 && x.undo()) {
                back++;
                int left = many - back;
                check.eq("today() with " + left + " left", x.today(), left / 3);
                check.eq("owed(0, 1) with " + left + " left", x.owed(0, 1), left - left / 3);
            }
            check.eq("undo() of " + many, back, Math.min(many, 12));
        }
    }

    private static void beginAndStopKeepNone() {
        check.sentence("begin() and stop() keep none");
        PledgeMonitor x = Check.begun("Aa>$AB1");
        check.no("undo() behind the first begin()", x.undo());
        Check.events(x, 0, 0, 3);
        check.eq("begin() of another one", Check.begin(x, "Aa>$AC1"), 1);
        check.no("undo() behind begin()", x.undo());
        check.eq("owed(0, 2)", x.owed(0, 2), 0);
        Check.events(x, 0, 0, 13);
        check.yes("stop()", x.stop());
        check.no("undo() behind stop()", x.undo());
        check.eq("today() behind stop()", x.today(), -1);
        Check.begin(x, "Aa>$AC1");
        check.no("undo() behind stop() and begin()", x.undo());
        x.event(0, 0);
        check.yes("undo() of the event behind begin()", x.undo());
        check.no("and no more", x.undo());
    }

    private static void notKeptAnyMore() {
        check.sentence("Goes back to the latest one that is kept, which is not kept any more then.");
        PledgeMonitor x = Check.begun("Aa>$AB1;Ab>$AC1");
        Check.events(x, 0, 0, 14);
        for (int i = 0; i < 7; i++) {
            x.undo();
        }
        check.eq("owed(0, 1) behind seven undo()", x.owed(0, 1), 7);
        Check.events(x, 0, 1, 9);
        for (int left = 8; left >= 0; left--) {
            check.yes("undo() of the new ones", x.undo());
            check.eq("owed(0, 2)", x.owed(0, 2), left);
            check.eq("owed(0, 1)", x.owed(0, 1), 7);
        }
        for (int left = 6; left >= 4; left--) {
            check.yes("undo() of the three old ones that are kept still", x.undo());
            check.eq("owed(0, 1)", x.owed(0, 1), left);
        }
        check.no("undo() of no more", x.undo());
    }

    private static void falseWhenNone() {
        check.sentence("Answers true; false when none is kept.");
        PledgeMonitor x = new PledgeMonitor();
        check.no("undo() of a new object", x.undo());
        Check.begin(x, "Aa>$AB1");
        check.no("undo() behind begin()", x.undo());
        x.event(0, 0);
        check.yes("undo() of one event", x.undo());
        check.no("undo() of two", x.undo());
        x.nextDay();
        check.yes("undo() of one day", x.undo());
        check.no("undo() of two days", x.undo());
    }

    private static void today() {
        check.sentence("The day; NONE when there is no agreement.");
        PledgeMonitor x = typedInto();
        check.eq("today() before begin()", x.today(), -1);
        x.begin();
        check.eq("today() behind begin()", x.today(), 0);
        Check.days(x, 60);
        check.eq("today() at last", x.today(), 60);
        x.undo();
        check.eq("today() behind undo()", x.today(), 59);
        x.stop();
        check.eq("today() behind stop()", x.today(), -1);
    }

    private static void duty() {
        check.sentence("Duty i (from 0) by day, then by clause: 100 times its day, and its clause; NONE when there is none.");
        PledgeMonitor x = Check.begun("=>$AB1;Ab>!Aa9;s>!Aa1;s>!Aa0;s>!Aa1;s>=4");
        int[] want = {3, 102, 104, 104, -1, -1};
        for (int i = 0; i < want.length; i++) {
            check.eq("duty(" + i + ")", x.duty(i), want[i]);
        }
        Check.events(x, 0, 1, 4);
        check.eq("duty(7) of eight", x.duty(7), 901);
        for (int i : new int[] {8, 9, -1, Integer.MIN_VALUE, Integer.MAX_VALUE}) {
            check.eq("duty(" + i + ") of eight", x.duty(i), -1);
        }
        Check.days(x, 2);
        check.eq("duty(3) of four", x.duty(3), 901);
        check.eq("duty(4) of four", x.duty(4), -1);
        x.stop();
        check.eq("duty(0) behind stop()", x.duty(0), -1);
        check.eq("duty(0) of a new object", new PledgeMonitor().duty(0), -1);
        PledgeMonitor y = Check.begun("s>$AB0;".repeat(9) + "Aa>!Aa9");
        Check.days(y, 60);
        y.event(0, 0);
        check.eq("duty(0) of the last clause on the last day", y.duty(0), 6909);
    }

    private static void count() {
        check.sentence("How many duties there are (what = 0), bans (1), powers (2); 0 when there is no agreement, or for any other what.");
        PledgeMonitor x = Check.begun("s>!Aa9;s>~Ab9;s>=1;s>?Ac9;s>=3;s>=3");
        check.eq("count(0)", x.count(0), 1);
        check.eq("count(1)", x.count(1), 2);
        check.eq("count(2)", x.count(2), 3);
        for (int what : new int[] {-1, 3, Integer.MIN_VALUE, Integer.MAX_VALUE}) {
            check.eq("count(" + what + ")", x.count(what), 0);
        }
        x.stop();
        for (int what = -1; what <= 3; what++) {
            check.eq("count(" + what + ") behind stop()", x.count(what), 0);
            check.eq("count(" + what + ") of a new object", new PledgeMonitor().count(what), 0);
        }
    }

    private static void breaches() {
        check.sentence("How many breaches of a clause there were; 0 when there is no such clause.");
        PledgeMonitor x = Check.begun("s>!Aa0;s>$AB0;s>~Ab9");
        Check.events(x, 0, 1, 2);
        x.nextDay();
        check.eq("breaches(0)", x.breaches(0), 1);
        check.eq("breaches(1)", x.breaches(1), 0);
        check.eq("breaches(2)", x.breaches(2), 2);
        for (int clause : new int[] {-1, 3, 9, 10, Integer.MIN_VALUE, Integer.MAX_VALUE}) {
            check.eq("breaches(" + clause + ")", x.breaches(clause), 0);
        }
        x.stop();
        check.eq("breaches(0) behind stop()", x.breaches(0), 0);
        check.eq("breaches(0) of a new object", new PledgeMonitor().breaches(0), 0);
        PledgeMonitor y = Check.begun("s>$AB0;".repeat(9) + "s>~Aa9");
        y.event(0, 0);
        check.eq("breaches(9) of ten clauses", y.breaches(9), 1);
        check.eq("breaches(10) of ten clauses", y.breaches(10), 0);
        Check.begin(y, "s>$AB0");
        check.eq("breaches(9) of one clause", y.breaches(9), 0);
    }

    private static void may() {
        check.sentence("0 when it is not banned, 1 when it is, but it has a power, 2 when it would be a breach");
        PledgeMonitor x = Check.begun("s>~Aa1;s>?Aa0;s>?Ab9;s>~Ce0;s>~Bc1;s>?Bc1;s>~Bd1;s>?Cd1");
        check.eq("may(0, 0) with a ban and a power", x.may(0, 0), 1);
        check.eq("may(0, 1) with a power alone", x.may(0, 1), 0);
        check.eq("may(2, 4) with a ban alone", x.may(2, 4), 2);
        check.eq("may(1, 3) with a power of another party", x.may(1, 3), 2);
        check.eq("may(1, 4) with nothing", x.may(1, 4), 0);
        x.nextDay();
        check.eq("may(0, 0) when the power has passed", x.may(0, 0), 2);
        check.eq("may(2, 4) when the ban has passed", x.may(2, 4), 0);
        check.eq("may(1, 2) on the last day of both", x.may(1, 2), 1);
        x.event(1, 2);
        check.eq("may(1, 2) when the power is spent", x.may(1, 2), 2);
    }

    private static void mayWithoutSuch() {
        check.sentence("NONE when there is no agreement, or no such party or kind.");
        PledgeMonitor x = new PledgeMonitor();
        check.eq("may(0, 0) of a new object", x.may(0, 0), -1);
        Check.begin(x, "s>~Aa9;s>~Ce9");
        int[][] wrong = {{-1, 0}, {3, 0}, {0, -1}, {0, 5}, {Integer.MIN_VALUE, 0}, {Integer.MAX_VALUE, 0},
            {0, Integer.MIN_VALUE}, {0, Integer.MAX_VALUE}};
        for (int[] w : wrong) {
            check.eq("may(" + w[0] + ", " + w[1] + ")", x.may(w[0], w[1]), -1);
        }
        check.eq("may(0, 0)", x.may(0, 0), 2);
        check.eq("may(2, 4)", x.may(2, 4), 2);
        x.stop();
        check.eq("may(0, 0) behind stop()", x.may(0, 0), -1);
    }

    private static void owed() {
        check.sentence("What party p owes party q; 0 when there is no agreement, or no such party.");
        PledgeMonitor x = Check.begun("s>$AB1;s>$AC2;s>$BA3;s>$BC4;s>$CA5;s>$CB6");
        int[] want = {0, 1, 2, 3, 0, 4, 5, 6, 0};
        for (int i = 0; i < 9; i++) {
            check.eq("owed(" + i / 3 + ", " + i % 3 + ")", x.owed(i / 3, i % 3), want[i]);
        }
        for (int no : new int[] {-1, 3, 4, Integer.MIN_VALUE, Integer.MAX_VALUE}) {
            for (int party = 0; party < 3; party++) {
                check.eq("owed(" + party + ", " + no + ")", x.owed(party, no), 0);
                check.eq("owed(" + no + ", " + party + ")", x.owed(no, party), 0);
            }
        }
        check.eq("owed(-1, 4)", x.owed(-1, 4), 0);
        check.eq("owed(3, -2)", x.owed(3, -2), 0);
        x.stop();
        check.eq("owed(0, 1) behind stop()", x.owed(0, 1), 0);
        check.eq("owed(0, 1) of a new object", new PledgeMonitor().owed(0, 1), 0);
    }
}
