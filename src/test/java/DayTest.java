/** Promise 9: nextDay. */
final class DayTest {
    private static final Check check = new Check();

    public static void main(String[] args) {
        check.each(
                DayTest::exceptions,
                DayTest::dutiesThatAreDue,
                DayTest::dutiesThatTheEndOfTheDayStarts,
                DayTest::whatRunsInWhichOrder,
                DayTest::bansAndPowersPass,
                DayTest::whatEndsOnlyBehindTheRun,
                DayTest::fullDaysChangeNothing);
        check.end();
    }

    private static void exceptions() {
        PledgeMonitor none = new PledgeMonitor();
        check.call("nextDay() without an agreement", none::nextDay, Check.STATE);
        PledgeMonitor x = Check.begun("Aa>!Aa0;x0>$AB1;Aa>=0");
        for (int day = 1; day <= 60; day++) {
            check.call("nextDay()", x::nextDay, 0);
            check.eq("today()", x.today(), day);
        }
        check.call("nextDay() on day 60", x::nextDay, Check.STATE);
        x.event(0, 0);
        check.call("nextDay() on day 60 with duties", x::nextDay, Check.STATE);
        check.eq("they stay", x.count(0), 2);
        check.eq("no debt", x.owed(0, 1), 0);
    }

    private static void dutiesThatAreDue() {
        PledgeMonitor x = Check.begun("s>!Aa0;s>!Ab1;s>!Ba1;s>!Ac2;s>=1");
        check.call("end of day 0", x::nextDay, 1);
        check.eq("breaches(0)", x.breaches(0), 1);
        check.eq("four are left", x.count(0), 4);
        check.call("end of day 1", x::nextDay, 3);
        check.eq("breaches(1)", x.breaches(1), 2);
        check.eq("breaches(2)", x.breaches(2), 1);
        check.eq("breaches(3)", x.breaches(3), 0);
        check.eq("duty(0)", x.duty(0), 203);
        check.call("event(0, 2)", () -> x.event(0, 2), 0);
        check.call("end of day 2", x::nextDay, 0);
        check.eq("breaches(3) of what was fulfilled", x.breaches(3), 0);
    }

    private static void dutiesThatTheEndOfTheDayStarts() {
        PledgeMonitor x = Check.begun("s>!Aa0;x0>!Ab0;x0>!Ac1;x1>$AB1");
        check.call("end of day 0", x::nextDay, 1);
        check.eq("a duty until the day that ended", x.duty(0), 1);
        check.eq("a duty from that day on", x.duty(1), 102);
        check.eq("breaches(1)", x.breaches(1), 0);
        check.call("end of day 1", x::nextDay, 2);
        check.eq("an earlier day is due, too", x.breaches(1), 1);
        check.eq("owed(0, 1)", x.owed(0, 1), 1);
        PledgeMonitor y = Check.begun("s>!Aa0;x0>=0");
        for (int day = 1; day < 10; day++) {
            check.call("a duty that comes again", y::nextDay, 1);
            check.eq("its breaches", y.breaches(0), day);
            check.eq("there is one", y.count(0), 1);
        }
        PledgeMonitor z = Check.begun("s>!Aa0;x0>!Ab0");
        z.nextDay();
        z.event(0, 1);
        check.call("a late duty can be fulfilled", z::nextDay, 0);
    }

    private static void whatRunsInWhichOrder() {
        PledgeMonitor x = Check.begun("s>!Aa1;s>!Aa0;x1[AB0]>$CA1;x0>$AB1;x0[AC0]>$CB1;x1>$AC1");
        check.call("one breach", x::nextDay, 1);
        check.eq("a breach of 1 alone", x.owed(0, 2), 1);
        check.eq("a condition that does not hold", x.owed(2, 0), 0);
        PledgeMonitor y = Check.begun("s>!Ab0;s>!Aa0;x1[AB0]>$CA1;x0>$AB1;x0[AC0]>$CB1;x1>$AC1");
        check.call("two breaches", y::nextDay, 2);
        check.eq("what 0 starts runs first", y.owed(2, 0), 1);
        check.eq("what 1 starts runs last", y.owed(2, 1), 0);
        PledgeMonitor z = Check.begun("s>!Aa0;s>=0;x0[AB0]>$AC1;x0>$AB1");
        check.call("two duties of a clause", z::nextDay, 2);
        check.eq("start what they trigger twice", z.owed(0, 1), 2);
        check.eq("one after the other", z.owed(0, 2), 1);
        PledgeMonitor w = Check.begun("s>!Aa0;s>!Ab0;x0>=5;x1>$AB1;s>!Cc9;=[AB0]>$AC1;f4>$BC1");
        w.nextDay();
        check.eq("called clauses wait behind all others", w.owed(0, 2), 1);
        check.eq("a breach fulfils nothing", w.owed(1, 2), 0);
    }

    private static void bansAndPowersPass() {
        PledgeMonitor x = Check.begun("s>~Aa0;s>~Aa1;s>?Bb0;s>?Bb1;s>~Bb2");
        check.eq("bans on day 0", x.count(1), 3);
        check.eq("powers on day 0", x.count(2), 2);
        check.call("no breach", x::nextDay, 0);
        check.eq("bans on day 1", x.count(1), 2);
        check.eq("powers on day 1", x.count(2), 1);
        check.eq("may(1, 1) on day 1", x.may(1, 1), 1);
        x.nextDay();
        check.eq("bans on day 2", x.count(1), 1);
        check.eq("powers on day 2", x.count(2), 0);
        check.eq("may(1, 1) on day 2", x.may(1, 1), 2);
        x.nextDay();
        check.eq("bans on day 3", x.count(1), 0);
        check.eq("may(1, 1) on day 3", x.may(1, 1), 0);
    }

    private static void whatEndsOnlyBehindTheRun() {
        PledgeMonitor x = Check.begun("s>!Aa0;x0>~Ab0;x0>?Ab0;x0>~Ac1;x0>?Ac1");
        x.nextDay();
        check.eq("a ban until the day that ended is gone", x.count(1), 1);
        check.eq("so is a power", x.count(2), 1);
        check.eq("the others last one day more", x.may(0, 2), 1);
        x.nextDay();
        check.eq("and no longer", x.count(1) + x.count(2), 0);
        PledgeMonitor y = Check.begun("s>!Aa0;x0>~Ab9;s>~Ac0;s>=2;s>=2;s>=2;s>=2;s>=2;s>=2;s>=2");
        check.eq("eight bans", y.count(1), 8);
        check.call("there is no room before they have ended", y::nextDay, Check.UNSUPPORTED);
    }

    private static void fullDaysChangeNothing() {
        PledgeMonitor x = Check.begun("s>!Aa0;x0>$AB5;x0>?Ab9;s>?Ac0;s>=3;s>=3;s>=3;s>=3;s>=3;s>=3");
        x.event(0, 3);
        check.eq("seven powers", x.count(2), 7);
        check.call("nextDay() with room for one", x::nextDay, 1);
        check.eq("one power is left", x.count(2), 1);
        PledgeMonitor y = Check.begun("s>!Aa0;x0>$AB5;x0>?Ab9;Ad>?Ac0");
        Check.events(y, 0, 3, 8);
        check.call("nextDay() that is full", y::nextDay, Check.UNSUPPORTED);
        check.eq("today()", y.today(), 0);
        check.eq("owed(0, 1)", y.owed(0, 1), 0);
        check.eq("breaches(0)", y.breaches(0), 0);
        check.eq("duty(0)", y.duty(0), 0);
        check.eq("count(2)", y.count(2), 8);
        check.call("the duty done", () -> y.event(0, 0), 0);
        check.call("nextDay() then", y::nextDay, 0);
        PledgeMonitor z = Check.begun("Ab>!Aa0;x0>!Aa9");
        Check.events(z, 0, 1, 8);
        check.call("duties that end make room", z::nextDay, 8);
        check.eq("for as many", z.count(0), 8);
    }
}
