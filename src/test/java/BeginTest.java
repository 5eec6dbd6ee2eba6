/** Promises 5 and 6: begin and stop, and how clauses run. */
final class BeginTest {
    private static final Check check = new Check();

    public static void main(String[] args) {
        check.each(
                BeginTest::startsRunByNumber,
                BeginTest::calledClausesWaitBehindAllOthers,
                BeginTest::conditionsAreLookedAtInTheirTurn,
                BeginTest::businessDays,
                BeginTest::aNewAgreementStartsAnew,
                BeginTest::fullAgreements,
                BeginTest::anAgreementGoesOnBehindBeginsThatThrow,
                BeginTest::stopEndsIt);
        check.end();
    }

    private static void startsRunByNumber() {
        PledgeMonitor x = Check.begun("s>!Ba3;Aa>!Aa1;s>~Cc2;=>?Aa1;s>?Ab0;s>$CB7;s>!Aa1");
        check.eq("count(0)", x.count(0), 2);
        check.eq("duty(0)", x.duty(0), 106);
        check.eq("duty(1)", x.duty(1), 300);
        check.eq("count(1)", x.count(1), 1);
        check.eq("count(2)", x.count(2), 1);
        check.eq("owed(2, 1)", x.owed(2, 1), 7);
        check.eq("today()", x.today(), 0);
    }

    private static void calledClausesWaitBehindAllOthers() {
        PledgeMonitor x = Check.begun("s>=2;s>$AB1;=[AB0]>$BC1");
        check.eq("a called clause runs behind the others", x.owed(1, 2), 1);
        x = Check.begun("s>=3;s>=2;Aa[AC0]>$BC1;Bb>$AC1");
        check.eq("the first one called runs first", x.owed(1, 2), 1);
        x = Check.begun("s>=3;s>=2;Bb>$AC1;Aa[AC0]>$BC1");
        check.eq("the second one called runs second", x.owed(1, 2), 0);
        x = Check.begun("s>=1;=>=2;=>=3;=>=4;=>=5;=>=6;=>=7;=>=8;=>=9;Aa>$AB9");
        check.eq("a chain of ten", x.owed(0, 1), 9);
        x = Check.begun("s>=1;s>$AB2");
        check.eq("a clause that waits twice", x.owed(0, 1), 4);
    }

    private static void conditionsAreLookedAtInTheirTurn() {
        PledgeMonitor x = Check.begun("s[AB0]>$CA1;s>$AB5;s[AB4]>$CA2;s[AB5]>$CA4;s[BA0]>$CB1");
        check.eq("owed(2, 0)", x.owed(2, 0), 2);
        check.eq("owed(2, 1)", x.owed(2, 1), 0);
        x = Check.begun("s>$AB0;s[AB0]>$BC1");
        check.eq("nothing is not more than 0", x.owed(1, 2), 0);
        x = Check.begun("s[AB0]>=2;s>$AB1;=>$BC1");
        check.eq("a call whose condition does not hold", x.owed(1, 2), 0);
    }

    private static void businessDays() {
        PledgeMonitor x = Check.begun("s>!Aa0;s>!Aa1;s>!Aa2;s>~Aa2", 0, 1, 3);
        check.eq("no business day from now, though it is free", x.duty(0), 0);
        check.eq("one business day", x.duty(1), 201);
        check.eq("two business days", x.duty(2), 402);
        Check.days(x, 2);
        check.eq("bans last days that need not be business days", x.may(0, 0), 2);
        x.nextDay();
        check.eq("the ban has passed", x.may(0, 0), 0);
        x = Check.begun("Aa>!Bb9", 57, 58, 59, 60);
        Check.days(x, 55);
        x.event(0, 0);
        check.eq("days behind 60 are business days", x.duty(0), 6800);
        Check.days(x, 5);
        x.event(0, 0);
        check.eq("nine days from day 60", x.duty(1), 6900);
    }

    private static void aNewAgreementStartsAnew() {
        PledgeMonitor x = Check.begun("s>!Aa0;s>~Bb9;s>?Cc9;x0>$AB9;s>!Aa9");
        x.nextDay();
        check.eq("breaches(0)", x.breaches(0), 1);
        check.eq("begin() in place of another", Check.begin(x, "s>$AB1;Aa>!Aa1"), 2);
        check.eq("today()", x.today(), 0);
        check.eq("count(0)", x.count(0), 0);
        check.eq("count(1)", x.count(1), 0);
        check.eq("count(2)", x.count(2), 0);
        check.eq("breaches(0) anew", x.breaches(0), 0);
        check.eq("owed(0, 1)", x.owed(0, 1), 1);
        check.no("undo() of a day of the other one", x.undo());
        check.eq("owed(0, 1) behind undo()", x.owed(0, 1), 1);
    }

    private static void fullAgreements() {
        for (String term : new String[] {"!Aa9", "~Aa9", "?Aa9"}) {
            check.eq("eight times " + term, Check.begun("s>" + term + ";s>=0".repeat(7)).count("!~?".indexOf(term.charAt(0))), 8);
            PledgeMonitor x = Check.begun("s>$AB3");
            x.nextDay();
            String text = "s>" + term + ";s>=0".repeat(8);
            Check.type(x, text);
            check.call("nine times " + term, x::begin, Check.UNSUPPORTED);
            check.eq("the day stays", x.today(), 1);
            check.eq("the debt stays", x.owed(0, 1), 3);
            check.eq("no clause comes", x.count(0) + x.count(1) + x.count(2), 0);
            check.yes("what was kept stays", x.undo());
            check.eq("the other agreement goes on", x.today(), 0);
            check.eq("the text stays", x.erase(), text.length());
        }
        PledgeMonitor x = new PledgeMonitor();
        Check.type(x, "s>!Aa9" + ";s>=0".repeat(8));
        check.call("a full one without another", x::begin, Check.UNSUPPORTED);
        check.eq("there is none then", x.today(), -1);
        check.yes("so a day can be free", x.free(3));
    }

    private static void anAgreementGoesOnBehindBeginsThatThrow() {
        PledgeMonitor x = Check.begun("Aa>$AB1;Ab>$BC1;s>!Cc9;f2>$CB4");
        Check.type(x, "Aa>$BA9;Ab>$CB9;s>!Ca9;q");
        check.call("begin() of no agreement", x::begin, Check.ARGUMENT);
        x.event(0, 0);
        check.eq("clause 0 is the old one", x.owed(0, 1), 1);
        x.erase();
        Check.type(x, "s>?Aa9;Ab>$CB9" + ";s>=0".repeat(8));
        check.call("begin() that is full", x::begin, Check.UNSUPPORTED);
        x.event(0, 1);
        check.eq("clause 1 is the old one", x.owed(1, 2), 1);
        check.eq("nothing of the new one", x.owed(2, 1) + x.count(2), 0);
        x.event(2, 2);
        check.eq("clause 3 is the old one", x.owed(2, 1), 4);
        check.eq("breaches(9) of an agreement of four", x.breaches(9), 0);
    }

    private static void stopEndsIt() {
        PledgeMonitor x = Check.begun("s>!Aa9;s>~Bb9;s>?Cc9;s>$AB5;Ab>~Aa1");
        x.event(0, 1);
        x.event(0, 0);
        check.eq("breaches(4)", x.breaches(4), 1);
        check.yes("stop()", x.stop());
        check.eq("today()", x.today(), -1);
        check.eq("duty(0)", x.duty(0), -1);
        check.eq("counts", x.count(0) + x.count(1) + x.count(2), 0);
        check.eq("breaches(4)", x.breaches(4), 0);
        check.eq("may(1, 1)", x.may(1, 1), -1);
        check.eq("owed(0, 1)", x.owed(0, 1), 0);
        check.no("undo()", x.undo());
        check.eq("today() behind undo()", x.today(), -1);
        check.call("event(0, 0)", () -> x.event(0, 0), Check.STATE);
        check.call("nextDay()", x::nextDay, Check.STATE);
        check.no("stop() again", x.stop());
        Check.type(x, "s>$AB1");
        x.stop();
        check.eq("stop() leaves the text", x.erase(), 6);
    }
}
