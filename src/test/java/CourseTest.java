/** Promise 17: course. */
final class CourseTest {
    private static final Check check = new Check();

    public static void main(String[] args) {
        check.each(
                CourseTest::exceptionsInTheirOrder,
                CourseTest::doingNothing,
                CourseTest::oneEvent,
                CourseTest::twoEvents,
                CourseTest::theOrderOfCourses,
                CourseTest::bansAndPowers,
                CourseTest::breachesOfOthers,
                CourseTest::fullIsNoCourse,
                CourseTest::twoDays,
                CourseTest::nothingChanges);
        check.end();
    }

    private static void is(String text, int party, int days, int want) {
        PledgeMonitor x = Check.begun(text);
        check.call("course(" + party + ", " + days + ") of " + text, () -> x.course(party, days), want);
    }

    private static void exceptionsInTheirOrder() {
        PledgeMonitor none = new PledgeMonitor();
        check.call("course(0, 1) without an agreement", () -> none.course(0, 1), Check.STATE);
        check.call("course(7, 7) without an agreement", () -> none.course(7, 7), Check.STATE);
        PledgeMonitor x = Check.begun("Aa>!Aa9");
        int[][] wrong = {{-1, 1}, {3, 1}, {0, 0}, {0, 3}, {0, -1}, {Integer.MIN_VALUE, 1}, {0, Integer.MAX_VALUE}};
        for (int[] w : wrong) {
            check.call("course(" + w[0] + ", " + w[1] + ")", () -> x.course(w[0], w[1]), Check.ARGUMENT);
        }
        Check.days(x, 58);
        check.call("course(0, 2) on day 58", () -> x.course(0, 2), 0);
        check.call("course(2, 1) on day 58", () -> x.course(2, 1), 0);
        x.nextDay();
        check.call("course(0, 1) on day 59", () -> x.course(0, 1), Check.ARGUMENT);
        x.nextDay();
        check.call("course(0, 2) on day 60", () -> x.course(0, 2), Check.ARGUMENT);
    }

    private static void doingNothing() {
        is("s>$AB1", 0, 1, 0);
        is("s>!Aa1", 0, 1, 0);
        is("s>!Aa2", 0, 2, 0);
        is("s>!Ba0", 0, 2, 0);
        is("s>~Aa9", 0, 2, 0);
    }

    private static void oneEvent() {
        is("s>!Aa0", 0, 1, 10);
        is("s>!Ce0", 2, 1, 14);
        is("s>!Ac0", 0, 2, 12);
        is("s>!Ba0;Aa>$AB1", 1, 1, 10);
        is("s>!Ac0;Ab>=2;f0>$AB1", 0, 1, 12);
    }

    private static void twoEvents() {
        is("s>!Ac0;s>!Ab0", 0, 1, 112);
        is("s>!Aa0;s>=0", 0, 1, 100);
        is("s>!Ae0;s>!Ae0", 0, 2, 144);
        is("s>!Aa0;s>!Ab0;s>!Ac0", 0, 1, -1);
        is("s>!Aa0;s>=0;s>=0", 0, 1, -1);
        is("s>!Aa0;f0>!Ab0", 0, 1, 101);
        is("s>!Ab0;f0>!Aa0", 0, 1, 110);
        is("s>!Aa0;f0>!Ab0;f1>!Ac0", 0, 1, -1);
        is("s>!Aa0;s>~Aa0;Ae>?Aa0", 0, 1, 140);
        is("Ae>?Aa0;s>!Aa0;s>~Aa0", 0, 1, 140);
        is("s>$AB0;s>$AB0;s>$AB0;s>$AB0;s>$AB0;s>$AB0;s>$AB0;s>!Aa0;s>~Aa0;Ae>?Aa0", 0, 2, 140);
    }

    private static void theOrderOfCourses() {
        is("s>!Ad0;Aa>!Ad5;Ab>!Ad5;f0>$AB1", 0, 1, 13);
        is("s>!Ab0;s>!Aa0", 0, 1, 101);
        is("s>!Ac0;f0>!Ad0;f0>!Aa0;Ae>~Aa9", 0, 1, -1);
        is("s>!Ae0;s>~Ae0;Ad>?Ae0;Ab>?Ae0", 0, 1, 114);
        is("s>!Aa1;s>!Ab1;s>!Ac1;s>!Ad1", 0, 2, 101);
        is("s>!Ad1;s>!Ac1;s>!Ab1;s>~Ab0", 0, 2, 12);
    }

    private static void bansAndPowers() {
        is("s>!Aa0;s>~Aa0", 0, 1, -1);
        is("s>!Aa0;s>~Aa0", 0, 2, -1);
        is("s>!Aa0;s>~Aa0;s>?Aa0", 0, 1, 10);
        is("s>!Aa1;s>~Aa0", 0, 2, 0);
        is("s>!Aa1;s>~Aa1", 0, 2, -1);
        is("s>!Aa1;s>~Aa1;s>?Aa0", 0, 2, 10);
        is("s>!Aa0;s>=0;s>~Aa0;s>?Aa0", 0, 1, -1);
        is("s>!Aa0;s>~Ba0", 0, 1, 10);
        is("s>!Aa0;Aa>~Aa9", 0, 1, 10);
        is("s>!Aa0;s>=0;Aa>~Aa9", 0, 1, -1);
    }

    private static void breachesOfOthers() {
        is("s>!Ba0;x0>$BA1", 0, 1, 0);
        is("s>!Ba0;x0>!Aa0", 0, 1, 0);
        is("s>!Ba0;x0>!Aa0", 0, 2, 0);
        is("s>!Ba0;x0>!Aa0;x0>!Ab0;x0>!Ac0", 0, 2, -1);
        is("s>!Ba0;x0>!Aa0;x0>~Aa5", 0, 2, -1);
        is("s>!Ba0;x0>!Aa0;x0>~Aa0", 0, 2, 0);
    }

    private static void fullIsNoCourse() {
        PledgeMonitor x = Check.begun("s>!Aa0;Ab>$AB9;Ac>$AB2;f0>$AB9");
        Check.events(x, 0, 1, 110);
        check.eq("owed(0, 1)", x.owed(0, 1), 990);
        check.call("999 is not full", () -> x.course(0, 1), 10);
        x.event(0, 2);
        check.call("1001 is full", () -> x.course(0, 1), -1);
        check.call("for others it is nothing", () -> x.course(1, 1), 0);
        PledgeMonitor z = Check.begun("s>!Ba0;x0>?Aa9;Cc>?Ad9;s>~Ad9");
        Check.events(z, 2, 2, 8);
        check.call("the end of the day is full, so a power must be spent", () -> z.course(0, 1), 13);
        check.call("another party has no such power", () -> z.course(2, 1), -1);
        check.call("the one with the duty does it", () -> z.course(1, 1), 10);
    }

    private static void twoDays() {
        is("s>!Aa1;s>!Ab1;s>!Ac1", 0, 1, 0);
        is("s>!Aa1;s>!Ab1;s>!Ac1", 0, 2, 10);
        is("s>!Ac1;s>!Ab1;s>!Aa1", 0, 2, 10);
        is("s>!Aa1;s>!Ab1;s>!Ac1;s>!Ad1;s>!Ae1", 0, 2, -1);
        is("s>!Aa0;f0>!Ab1;f0>!Ac1;f0>!Ad1", 0, 2, 101);
        PledgeMonitor x = new PledgeMonitor();
        x.free(1);
        Check.begin(x, "s>!Aa1;s>!Ab1;s>!Ac1");
        check.call("course(0, 2) over a free day", () -> x.course(0, 2), 0);
        x.nextDay();
        check.call("course(0, 2) on the free day", () -> x.course(0, 2), 10);
    }

    private static void nothingChanges() {
        PledgeMonitor x = Check.begun("s>!Aa1;s>!Ab1;s>!Ac1;Aa>$AB1;x0>$AC1");
        x.event(1, 1);
        x.course(0, 2);
        x.course(1, 2);
        check.eq("today()", x.today(), 0);
        check.eq("count(0)", x.count(0), 3);
        check.eq("owed(0, 1)", x.owed(0, 1) + x.owed(0, 2), 0);
        check.eq("breaches(0)", x.breaches(0), 0);
        check.yes("undo() of the event", x.undo());
        check.no("undo() of nothing more", x.undo());
    }
}
