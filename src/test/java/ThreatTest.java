/** Promise 18: threat. */
final class ThreatTest {
    private static final Check check = new Check();

    public static void main(String[] args) {
        check.each(
                ThreatTest::exceptionsInTheirOrder,
                ThreatTest::noThreat,
                ThreatTest::theFirstThreat,
                ThreatTest::eventsThatAreNotLookedAt,
                ThreatTest::oneDayAndTwo,
                ThreatTest::nothingChanges);
        check.end();
    }

    private static void is(String text, int party, int days, int want) {
        PledgeMonitor x = Check.begun(text);
        check.call("threat(" + party + ", " + days + ") of " + text, () -> x.threat(party, days), want);
    }

    private static void exceptionsInTheirOrder() {
        PledgeMonitor none = new PledgeMonitor();
        check.call("threat(0, 1) without an agreement", () -> none.threat(0, 1), Check.STATE);
        check.call("threat(7, 7) without an agreement", () -> none.threat(7, 7), Check.STATE);
        PledgeMonitor x = Check.begun("Ba>!Aa0;Ba>~Aa0");
        int[][] wrong = {{-1, 1}, {3, 1}, {0, 0}, {0, 3}, {0, -1}, {Integer.MIN_VALUE, 1}, {0, Integer.MAX_VALUE}};
        for (int[] w : wrong) {
            check.call("threat(" + w[0] + ", " + w[1] + ")", () -> x.threat(w[0], w[1]), Check.ARGUMENT);
        }
        Check.days(x, 58);
        check.call("threat(0, 2) on day 58", () -> x.threat(0, 2), 5);
        x.nextDay();
        check.call("threat(0, 1) on day 59", () -> x.threat(0, 1), Check.ARGUMENT);
    }

    private static void noThreat() {
        is("s>$AB1", 0, 2, -1);
        is("s>!Aa0", 0, 2, -1);
        is("Ba>!Aa0", 0, 2, -1);
        is("Aa>!Aa0;Aa>~Aa0", 0, 2, -1);
        is("Aa>!Ba0;Aa>~Ba0", 2, 2, -1);
    }

    private static void theFirstThreat() {
        is("Ba>!Aa0;Ba>~Aa0", 0, 1, 5);
        is("Ce>!Ae0;Ce>~Ae0", 0, 1, 14);
        is("Aa>!Bb0;Aa>!Bc0;Aa>!Bd0", 1, 1, 0);
        is("Ad>!Cc0;Ad>~Cc0", 2, 2, 3);
        is("Cb>!Aa0;Cb>~Aa0;Be>!Aa0;Be>~Aa0", 0, 1, 9);
        is("Bd>!Aa0;Bd>~Aa0;Bc>!Aa0;Bc>~Aa0", 0, 1, 7);
        is("Cb>!Ba0;Cb>~Ba0;Be>!Ba0;Be>~Ba0;Ae>!Ba0;Ae>~Ba0", 1, 1, 4);
        is("Cb>!Ca0;Cb>~Ca0;Ae>!Ca0;Ae>~Ca0", 2, 1, 4);
        is("s>!Aa0;s>!Ab0;Bb>!Ac0", 0, 1, 6);
        is("s>!Aa0;Bc>~Aa0", 0, 1, 7);
        is("s>!Aa0;s>~Aa0;Bc>~Aa0", 0, 1, -1);
        is("s>!Ba0;f0>!Aa0;f0>~Aa0", 0, 1, 5);
    }

    private static void eventsThatAreNotLookedAt() {
        is("s>~Ba5;Ba>!Aa0;Ba>~Aa0", 0, 1, -1);
        is("s>~Ba5;s>?Ba5;Ba>!Aa0;Ba>~Aa0", 0, 1, 5);
        is("s>~Ba5;Ba>!Aa0;Ba>~Aa0;Cb>!Aa0;Cb>~Aa0", 0, 1, 11);
        PledgeMonitor x = Check.begun("Ba>!Aa0;Ba>~Aa0;Ba>?Cc9;Bb>?Cc9");
        Check.events(x, 1, 1, 7);
        check.call("there is room for one power", () -> x.threat(0, 1), 5);
        x.event(1, 1);
        check.call("there is none", () -> x.threat(0, 1), -1);
    }

    private static void oneDayAndTwo() {
        is("Ba>!Aa1;Ba>~Aa1", 0, 1, -1);
        is("Ba>!Aa1;Ba>~Aa1", 0, 2, 5);
        is("s>!Aa1;f0>!Ab0;Bc>~Ab3;Bd>?Ab2", 0, 1, -1);
        is("s>!Aa1;f0>!Ab0;Bc>~Ab3;Bd>?Ab2", 0, 2, 7);
        is("s>!Ba1;s>!Bb1;s>!Bc1;s>!Bd1;Aa>!Be1", 1, 2, 0);
    }

    private static void nothingChanges() {
        PledgeMonitor x = Check.begun("Ba>!Aa0;Ba>~Aa0;Bb>$AB1;s>!Cc0;x3>$CA1");
        x.event(1, 2);
        check.call("threat(0, 2)", () -> x.threat(0, 2), 5);
        check.eq("today()", x.today(), 0);
        check.eq("counts", x.count(0) + x.count(1), 1);
        check.eq("owed", x.owed(0, 1) + x.owed(2, 0), 0);
        check.eq("breaches(3)", x.breaches(3), 0);
        check.yes("undo() of the event", x.undo());
        check.no("undo() of nothing more", x.undo());
    }
}
