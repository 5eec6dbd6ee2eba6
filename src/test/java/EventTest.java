/** Promise 8: event. */
final class EventTest {
    private static final Check check = new Check();

    public static void main(String[] args) {
        check.each(
                EventTest::exceptionsInTheirOrder,
                EventTest::bansAreBreached,
                EventTest::powersAreSpent,
                EventTest::theRightPowerIsSpent,
                EventTest::theRightDutyIsFulfilled,
                EventTest::aBreachAndAFulfilmentAtOnce,
                EventTest::whatRunsInWhichOrder,
                EventTest::fullEventsChangeNothing,
                EventTest::theLongestRow);
        check.end();
    }

    private static void exceptionsInTheirOrder() {
        PledgeMonitor none = new PledgeMonitor();
        check.call("event(0, 0) without an agreement", () -> none.event(0, 0), Check.STATE);
        check.call("event(9, 9) without an agreement", () -> none.event(9, 9), Check.STATE);
        PledgeMonitor x = Check.begun("Aa>$AB1");
        int[][] wrong = {{-1, 0}, {3, 0}, {0, -1}, {0, 5}, {Integer.MIN_VALUE, 0}, {0, Integer.MAX_VALUE}};
        for (int[] w : wrong) {
            check.call("event(" + w[0] + ", " + w[1] + ")", () -> x.event(w[0], w[1]), Check.ARGUMENT);
        }
        check.no("nothing is kept of them", x.undo());
        check.call("event(0, 0)", () -> x.event(0, 0), 0);
        check.call("event(2, 4)", () -> x.event(2, 4), 0);
        check.eq("owed(0, 1)", x.owed(0, 1), 1);
        Check.days(x, 60);
        check.call("event(0, 0) on day 60", () -> x.event(0, 0), 0);
        check.eq("owed(0, 1) on day 60", x.owed(0, 1), 2);
    }

    private static void bansAreBreached() {
        PledgeMonitor x = Check.begun("s>~Aa3;s>~Aa5;s>~Ab5;s>~Ba5;s>=1;s>!Cc9");
        check.call("event(0, 0)", () -> x.event(0, 0), 3);
        check.eq("breaches(0)", x.breaches(0), 1);
        check.eq("breaches(1)", x.breaches(1), 2);
        check.eq("breaches(2)", x.breaches(2), 0);
        check.eq("breaches(3)", x.breaches(3), 0);
        check.eq("bans go on", x.count(1), 5);
        check.call("event(0, 0) again", () -> x.event(0, 0), 3);
        check.eq("breaches(1) again", x.breaches(1), 4);
        check.call("event(2, 0)", () -> x.event(2, 0), 0);
    }

    private static void powersAreSpent() {
        PledgeMonitor x = Check.begun("s>~Aa9;s>?Aa3;s>?Ab3;s>?Ba3;Aa>$AB1;x0>$AC1");
        check.call("event(0, 1), which is not banned", () -> x.event(0, 1), 0);
        check.eq("a power is not spent without need", x.count(2), 3);
        check.call("event(0, 0) with a power", () -> x.event(0, 0), 0);
        check.eq("the power is spent", x.count(2), 2);
        check.eq("the event starts its clauses", x.owed(0, 1), 1);
        check.eq("no breach", x.breaches(0) + x.owed(0, 2), 0);
        check.call("event(0, 0) without a power", () -> x.event(0, 0), 1);
        check.eq("a breach", x.owed(0, 2), 1);
        check.eq("other powers stay", x.count(2), 2);
    }

    private static void theRightPowerIsSpent() {
        PledgeMonitor x = Check.begun("s>~Aa9;s>?Aa5;s>?Aa1;s>?Aa3");
        x.event(0, 0);
        Check.days(x, 2);
        check.eq("the power until day 1 was spent, and none passed", x.count(2), 2);
        x.event(0, 0);
        Check.days(x, 2);
        check.eq("then the one until day 3", x.count(2), 1);
        check.eq("the one until day 5 is left", x.may(0, 0), 1);
        PledgeMonitor y = Check.begun("s>~Aa9;s>~Aa9;s>?Aa1");
        check.call("one power is enough for two bans", () -> y.event(0, 0), 0);
        check.call("but once", () -> y.event(0, 0), 2);
    }

    private static void theRightDutyIsFulfilled() {
        PledgeMonitor x = Check.begun("s>!Aa2;s>!Aa1;s>!Aa1;s>!Ab0;s>!Ba0;f0>$AB1;f1>$AC1;f2>$BC1");
        x.event(0, 0);
        check.eq("least day, then least clause: 1", x.owed(0, 2), 1);
        check.eq("one is fulfilled, not two", x.owed(1, 2) + x.owed(0, 1), 0);
        check.eq("it ends", x.count(0), 4);
        x.event(0, 0);
        check.eq("then clause 2", x.owed(1, 2), 1);
        x.event(0, 0);
        check.eq("then clause 0", x.owed(0, 1), 1);
        x.event(0, 0);
        check.eq("then none", x.owed(0, 1) + x.owed(0, 2) + x.owed(1, 2), 3);
        check.eq("others stay", x.count(0), 2);
    }

    private static void aBreachAndAFulfilmentAtOnce() {
        PledgeMonitor x = Check.begun("s>!Aa0;s>~Aa0;f0>$AB1;x1>$AC1");
        check.call("event(0, 0)", () -> x.event(0, 0), 1);
        check.eq("fulfilled", x.owed(0, 1), 1);
        check.eq("breached", x.owed(0, 2), 1);
        check.eq("no duty is left", x.count(0), 0);
        PledgeMonitor y = Check.begun("x1>$AB1;s>~Aa9");
        y.event(0, 0);
        check.eq("clause 0 is triggered by a breach", y.owed(0, 1), 1);
        PledgeMonitor z = Check.begun("f1>$AB1;s>!Aa9");
        z.event(0, 0);
        check.eq("clause 0 is triggered by a fulfilment", z.owed(0, 1), 1);
    }

    private static void whatRunsInWhichOrder() {
        String begin = "s>!Aa9;s>~Aa9;s>~Aa9;";
        PledgeMonitor x = Check.begun(begin + "f0[AB2]>$CA1;x2[AB1]>$AB1;x1[AB0]>$AB1;Aa>$AB1");
        x.event(0, 0);
        check.eq("event, breach of 1, of 2", x.owed(0, 1), 3);
        check.eq("then what was fulfilled", x.owed(2, 0), 1);
        x = Check.begun(begin + "x1>$AB1;x2[AB0]>$CA1;x1[CA0]>$CB1;Aa[AB0]>$BA1;f0[BC0]>$BA1;x2>$BC1");
        x.event(0, 0);
        check.eq("all that a breach of 1 starts", x.owed(0, 1), 1);
        check.eq("runs before what a breach of 2 starts", x.owed(2, 0), 1);
        check.eq("not behind it", x.owed(2, 1), 0);
        check.eq("the event's clauses run first, the duty's last", x.owed(1, 0), 1);
        x = Check.begun("s>~Aa9;s>=0;x0[AB0]>$AC1;x0>$AB1");
        check.eq("a clause with two bans: breaches", x.event(0, 0), 2);
        check.eq("starts all it triggers twice", x.owed(0, 1), 2);
        check.eq("one after the other", x.owed(0, 2), 1);
        x = Check.begun("Aa>=3;Aa>$AB1;s>!Aa9;=[AC0]>$CB1;f2>$AC1");
        x.event(0, 0);
        check.eq("called clauses wait behind what is fulfilled", x.owed(2, 1), 1);
        x = Check.begun("Aa>!Aa1;f0>$AB1;Aa>~Aa3;x2>$AC1");
        x.event(0, 0);
        check.eq("what an event starts is not met by it", x.owed(0, 1) + x.owed(0, 2), 0);
        x.event(0, 0);
        check.eq("but by the next one", x.owed(0, 1) + x.owed(0, 2), 2);
    }

    private static void fullEventsChangeNothing() {
        PledgeMonitor x = Check.begun("Aa>$AB9;Aa>!Ca9;Aa>=3;=>$BC1;Ca>$CA1");
        for (int i = 0; i < 8; i++) {
            x.event(0, 0);
        }
        check.eq("eight duties", x.count(0), 8);
        check.call("the ninth", () -> x.event(0, 0), Check.UNSUPPORTED);
        check.eq("the debt is as before", x.owed(0, 1), 72);
        check.eq("the call is not done", x.owed(1, 2), 8);
        check.call("a duty ends", () -> x.event(2, 0), 0);
        check.call("then there is room", () -> x.event(0, 0), 0);
        PledgeMonitor y = Check.begun("Aa>$AB9;Ab>$AB1;Ac>$AB0");
        Check.events(y, 0, 0, 111);
        check.eq("999 is not too much", y.owed(0, 1), 999);
        check.call("0 more", () -> y.event(0, 2), 0);
        check.call("1 more", () -> y.event(0, 1), Check.UNSUPPORTED);
        check.call("9 more", () -> y.event(0, 0), Check.UNSUPPORTED);
        check.eq("it stays", y.owed(0, 1), 999);
        PledgeMonitor z = Check.begun("Aa>!Aa9;Ab>!Aa9");
        Check.events(z, 0, 1, 8);
        check.call("a duty that ends makes room for its event's one", () -> z.event(0, 0), 0);
        check.eq("eight again", z.count(0), 8);
        PledgeMonitor w = Check.begun("s>~Aa9;s>=0;s>=0;s>=0;s>=0;s>=0;s>=0;s>=0;x0>~Bb9");
        check.call("a ban too many, started by a breach", () -> w.event(0, 0), Check.UNSUPPORTED);
        check.eq("no breach is counted then", w.breaches(0), 0);
    }

    private static void theLongestRow() {
        PledgeMonitor x = Check.begun("Ab>~Aa9;x0>=2;=>=3;=>=4;=>=5;=>=6;=>=7;=>=8;=>=9;=>$AB1");
        Check.events(x, 0, 1, 8);
        check.call("eight breaches", () -> x.event(0, 0), 8);
        check.eq("each with a chain of nine", x.owed(0, 1), 8);
        PledgeMonitor y = Check.begun("Ab>~Aa9;x0>=5;x0>=5;x0>=5;x0>=5;=>=6;=>=7;=>=8;=>=9;=>$AB1");
        Check.events(y, 0, 1, 8);
        check.call("eight breaches of four clauses each", () -> y.event(0, 0), 8);
        check.eq("with chains of five", y.owed(0, 1), 32);
    }
}
