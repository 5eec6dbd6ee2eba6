/** Promise 10: undo. */
final class UndoTest {
    private static final Check check = new Check();

    public static void main(String[] args) {
        check.each(
                UndoTest::everythingComesBack,
                UndoTest::onlyTwelveAreKept,
                UndoTest::keptStatesMakeRoomAgain,
                UndoTest::throwingCallsKeepNothing,
                UndoTest::beginAndStopKeepNone,
                UndoTest::whatIsNoPartOfTheState);
        check.end();
    }

    private static void everythingComesBack() {
        PledgeMonitor x = Check.begun("s>!Aa0;s>~Aa0;s>?Ab3;s>~Ab3;x0>$AB5;x1>$BC2;Ab>!Cc1");
        check.call("a breach", () -> x.event(0, 0), 1);
        check.call("a power", () -> x.event(0, 1), 0);
        check.call("a day", x::nextDay, 0);
        check.yes("undo() of the day", x.undo());
        check.eq("today()", x.today(), 0);
        check.eq("the ban is there again", x.count(1), 2);
        check.yes("undo() of the power", x.undo());
        check.eq("the power is there again", x.may(0, 1), 1);
        check.eq("the duty is not there any more", x.count(0), 0);
        check.yes("undo() of the breach", x.undo());
        check.eq("breaches(1)", x.breaches(1), 0);
        check.eq("owed(1, 2)", x.owed(1, 2), 0);
        check.eq("duty(0)", x.duty(0), 0);
        check.no("undo() of nothing", x.undo());
        check.call("another day", x::nextDay, 1);
        check.eq("owed(0, 1)", x.owed(0, 1), 5);
        check.yes("undo() of that day", x.undo());
        check.eq("owed(0, 1) behind it", x.owed(0, 1), 0);
        check.eq("breaches(0) behind it", x.breaches(0), 0);
    }

    private static void onlyTwelveAreKept() {
        PledgeMonitor x = Check.begun("Aa>$AB1");
        Check.events(x, 0, 0, 12);
        for (int left = 11; left >= 0; left--) {
            check.yes("undo() of twelve", x.undo());
            check.eq("owed(0, 1)", x.owed(0, 1), left);
        }
        check.no("undo() behind twelve", x.undo());
        Check.events(x, 0, 0, 13);
        for (int i = 0; i < 12; i++) {
            check.yes("undo() of thirteen", x.undo());
        }
        check.no("undo() a thirteenth time", x.undo());
        check.eq("the first event stays", x.owed(0, 1), 1);
        Check.events(x, 0, 0, 40);
        for (int left = 40; left > 28; left--) {
            check.yes("undo() of many", x.undo());
            check.eq("owed(0, 1) of many", x.owed(0, 1), left);
        }
        check.no("undo() behind many", x.undo());
    }

    private static void keptStatesMakeRoomAgain() {
        PledgeMonitor x = Check.begun("Aa>$AB1;Ab>$AC1");
        Check.events(x, 0, 0, 12);
        for (int i = 0; i < 5; i++) {
            x.undo();
        }
        Check.events(x, 0, 1, 5);
        check.eq("owed(0, 1)", x.owed(0, 1), 7);
        check.eq("owed(0, 2)", x.owed(0, 2), 5);
        for (int i = 0; i < 12; i++) {
            check.yes("undo() of twelve that were mixed", x.undo());
        }
        check.no("undo() behind them", x.undo());
        check.eq("owed in all", x.owed(0, 1) + x.owed(0, 2), 0);
    }

    private static void throwingCallsKeepNothing() {
        PledgeMonitor x = Check.begun("Aa>!Bb9;Ab>$AB1");
        Check.events(x, 0, 1, 4);
        Check.events(x, 0, 0, 8);
        check.call("a full event", () -> x.event(0, 0), Check.UNSUPPORTED);
        check.call("a wrong event", () -> x.event(0, 7), Check.ARGUMENT);
        for (int i = 0; i < 12; i++) {
            check.yes("undo() behind calls that threw", x.undo());
        }
        check.no("undo() a thirteenth time", x.undo());
        check.eq("all is undone", x.owed(0, 1) + x.count(0), 0);
        PledgeMonitor y = Check.begun("s>!Aa9");
        Check.days(y, 60);
        check.call("nextDay() on day 60", y::nextDay, Check.STATE);
        check.yes("undo()", y.undo());
        check.eq("today()", y.today(), 59);
        check.eq("the breach has been on day 9", y.breaches(0), 1);
    }

    private static void beginAndStopKeepNone() {
        PledgeMonitor x = Check.begun("Aa>$AB1");
        check.no("undo() behind begin()", x.undo());
        x.event(0, 0);
        Check.begin(x, "Aa>$AB1");
        check.no("undo() behind another begin()", x.undo());
        check.eq("owed(0, 1)", x.owed(0, 1), 0);
        x.event(0, 0);
        x.stop();
        check.no("undo() behind stop()", x.undo());
        check.eq("today()", x.today(), -1);
        Check.begin(x, "Aa>$AB1");
        check.no("undo() behind stop() and begin()", x.undo());
        x.event(0, 0);
        Check.type(x, "q");
        check.call("begin() that throws", x::begin, Check.ARGUMENT);
        check.yes("undo() behind it", x.undo());
        check.eq("owed(0, 1) behind it", x.owed(0, 1), 0);
    }

    private static void whatIsNoPartOfTheState() {
        PledgeMonitor x = Check.begun("Aa>$AB1");
        x.event(0, 0);
        Check.type(x, "abc");
        check.call("begin() of abc", x::begin, Check.ARGUMENT);
        check.yes("undo()", x.undo());
        check.eq("fault() stays", x.fault(), 0);
        check.eq("the text stays", x.erase(), 3);
        x.event(0, 0);
        x.course(0, 2);
        x.threat(0, 2);
        x.may(0, 0);
        check.yes("undo() behind calls that only tell", x.undo());
        check.no("they keep nothing", x.undo());
    }
}
