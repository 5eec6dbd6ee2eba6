/**
 * The sentences of the document on searches that name a boundary case, each with a test of its own:
 * of "Terms", and of promises 17 and 18.
 */
final class SearchSentencesTest {
    private static final Check check = new Check();
    private static final int NONE = PledgeMonitor.NONE;

    public static void main(String[] args) {
        check.each(
                SearchSentencesTest::alwaysForNoDay,
                SearchSentencesTest::noneOneOrTwoEvents,
                SearchSentencesTest::ofThatParty,
                SearchSentencesTest::oneAfterTheOther,
                SearchSentencesTest::noBreach,
                SearchSentencesTest::nothingIsFull,
                SearchSentencesTest::safeForOneDayLess,
                SearchSentencesTest::theOrderOfCourses,
                SearchSentencesTest::whatCourseAnswers,
                SearchSentencesTest::courseThrows,
                SearchSentencesTest::theFirstThreat,
                SearchSentencesTest::noThreat,
                SearchSentencesTest::onlyEventsThatAreLookedAt,
                SearchSentencesTest::threatThrows);
        check.end();
    }

    private static void course(String text, int party, int days, int want) {
        PledgeMonitor x = Check.begun(text);
        check.call("course(" + party + ", " + days + ") of " + text, () -> x.course(party, days), want);
    }

    private static void threat(String text, int party, int days, int want) {
        PledgeMonitor x = Check.begun(text);
        check.call("threat(" + party + ", " + days + ") of " + text, () -> x.threat(party, days), want);
    }

    private static void alwaysForNoDay() {
        check.sentence("A state is SAFE for a party and n days: always, if n is 0");
        course("s>!Aa1;s>~Aa1", 0, 1, 0);
        course("s>!Aa1;s>~Aa1", 0, 2, NONE);
        course("s>!Ba0;x0>!Aa0;x0>~Aa9", 0, 1, 0);
        course("s>!Ba0;x0>!Aa0;x0>~Aa9", 0, 2, NONE);
    }

    private static void noneOneOrTwoEvents() {
        check.sentence("a row of none, one or two events");
        course("Aa>$AB1", 0, 1, 0);
        course("s>!Aa0", 0, 1, 10);
        course("s>!Aa0;s>!Ab0", 0, 1, 101);
        course("s>!Aa0;s>!Ab0;s>!Ac0", 0, 1, NONE);
        course("s>!Aa0;f0>!Aa0;f1>!Aa0", 0, 1, NONE);
        course("s>!Aa1;s>!Ab1;s>!Ac1;s>!Ad1", 0, 2, 101);
        course("s>!Aa1;s>!Ab1;s>!Ac1;s>!Ad1;s>!Ae1", 0, 2, NONE);
    }

    private static void ofThatParty() {
        check.sentence("events of that party");
        course("s>!Aa0;s>~Aa0;Bb>?Aa0", 0, 1, NONE);
        course("s>!Aa0;s>~Aa0;Ab>?Aa0", 0, 1, 110);
        course("s>!Ba0;f0>?Cb0;s>!Cb0;s>~Cb0", 2, 1, NONE);
        course("s>!Ba0", 1, 1, 10);
        course("s>!Ca0", 2, 1, 10);
        PledgeMonitor x = Check.begun("s>!Ba0;x0>?Cc9;Cd>?Cc9");
        Check.events(x, 2, 3, 8);
        check.call("only B can keep the day from being full: A", () -> x.course(0, 1), NONE);
        check.call("only B can keep the day from being full: B", () -> x.course(1, 1), 10);
    }

    private static void oneAfterTheOther() {
        check.sentence("one after the other on this day, and then the end of the day");
        course("s>!Ac0;f0>!Ab0", 0, 1, 121);
        course("s>!Aa0;Aa>~Ab0;s>!Ab0", 0, 1, 110);
        course("s>!Aa0;Aa>~Ab0;s>!Ab0;Ab>~Aa0", 0, 1, NONE);
        course("s>!Aa0;s>=0;s>~Aa0;s>?Aa0", 0, 1, NONE);
        course("s>!Aa0;s>=0;s>~Aa0;s>?Aa0;s>?Aa0", 0, 1, 100);
        course("Aa>!Ab0;s>!Aa0", 0, 1, 101);
        course("Ae>?Aa0;s>!Aa0;s>~Aa0", 0, 1, 140);
        course("s>!Aa0;s>~Aa0;Ae>?Aa0", 0, 1, 140);
    }

    private static void noBreach() {
        check.sentence("there is no breach of a clause whose duty or ban is of that party");
        course("s>!Aa0;s>~Aa0", 0, 1, NONE);
        course("s>!Aa0;s>~Ba0", 0, 1, 10);
        course("s>!Aa0;s>~Ab0", 0, 1, 10);
        course("s>!Ba0;s>!Ca0", 0, 2, 0);
        course("s>!Ba0;s>!Ca0", 1, 1, 10);
        course("s>!Aa0;s>!Ba0;s>~Ba0", 0, 2, 10);
        course("s>!Ba0;x0>!Aa0", 0, 1, 0);
        course("s>!Aa0;s>!Ab0;s>~Ab0", 0, 1, NONE);
    }

    private static void nothingIsFull() {
        check.sentence("and nothing is full");
        PledgeMonitor x = Check.begun("s>!Aa0;Ab>$AB9;Ac>$AB1;f0>$AB9;x0>$AB9");
        Check.events(x, 0, 1, 110);
        check.call("an event up to 999", () -> x.course(0, 1), 10);
        x.event(0, 2);
        check.call("an event up to 1000", () -> x.course(0, 1), NONE);
        PledgeMonitor y = Check.begun("s>!Ba0;x0>?Cc9;Cc>?Ad9;s>~Ad9");
        Check.events(y, 2, 2, 7);
        check.call("a day up to eight powers", () -> y.course(0, 1), 0);
        y.event(2, 2);
        check.call("a day up to nine powers, if none is spent", () -> y.course(0, 1), 13);
        check.call("a party that can't spend one", () -> y.course(2, 1), NONE);
        PledgeMonitor z = Check.begun("s>!Ba1;x0>?Cc9;Cc>?Ad9");
        Check.events(z, 2, 2, 8);
        check.call("the second day is full", () -> z.course(0, 2), NONE);
        check.call("the first one is not", () -> z.course(0, 1), 0);
    }

    private static void safeForOneDayLess() {
        check.sentence("so that the state then is safe for n - 1 days");
        course("s>!Aa1;s>!Ab1;s>!Ac1", 0, 1, 0);
        course("s>!Aa1;s>!Ab1;s>!Ac1", 0, 2, 10);
        course("s>!Aa2;s>!Ab2;s>!Ac2", 0, 2, 0);
        course("s>!Ab1;s>~Ab1;s>?Ab0", 0, 2, 11);
        course("s>!Ab1;s>~Ab1;s>?Ab1", 0, 2, 0);
        course("s>!Aa0;f0>!Ab1;f0>!Ac1;f0>!Ad1", 0, 2, 101);
        course("s>!Aa0;f0>!Ab1;f0>!Ac1;f0>!Ad1;f0>!Ae1", 0, 2, NONE);
    }

    private static void theOrderOfCourses() {
        check.sentence("Courses are ordered: fewer events first, then by the kind of the first, then of the second one.");
        course("Aa>$AB1;Ab>$AB1", 0, 1, 0);
        course("s>!Ae0;Aa>?Ae0", 0, 1, 14);
        course("s>!Ad1;s>!Ac1;s>!Ab1", 0, 2, 11);
        course("s>!Ad0;s>!Ab0", 0, 1, 113);
        course("s>!Ae0;s>~Ae0;Ac>?Ae0;Ab>?Ae0", 0, 1, 114);
        course("s>!Ab1;s>!Ad1;s>!Ac1;s>!Ae1", 0, 2, 112);
        course("s>!Ad0;s>!Ae1;s>!Ac1;s>!Ac1", 0, 2, 123);
    }

    private static void whatCourseAnswers() {
        check.sentence("0 for no event, 10 and the kind for one, 100 and 10 times the first kind and the second one for two; NONE when there is none");
        course("s>$AB1", 0, 1, 0);
        course("s>!Aa0", 0, 1, 10);
        course("s>!Ae0", 0, 1, 14);
        course("s>!Aa0;s>!Aa0", 0, 1, 100);
        course("s>!Aa0;s>!Ae0", 0, 1, 104);
        course("s>!Ae0;f0>!Aa0", 0, 1, 140);
        course("s>!Ae0;s>!Ae0", 0, 1, 144);
        course("s>!Ae0;s>!Ae0;s>!Ae0", 0, 1, NONE);
        course("s>$AB0;".repeat(9) + "s>!Ae0", 0, 2, 14);
        course("s>$AB0;".repeat(9) + "s>!Ae0", 1, 2, 0);
    }

    private static void courseThrows() {
        check.sentence("IllegalStateException: there is no agreement; IllegalArgumentException: there is no such party, days is not 1 or 2, or the day is above 58.");
        PledgeMonitor x = new PledgeMonitor();
        check.call("course(0, 1) without an agreement", () -> x.course(0, 1), Check.STATE);
        Check.begin(x, "Ab>!Aa0");
        int[][] wrong = {{-1, 1}, {3, 1}, {0, 0}, {0, 3}, {0, -1}, {-1, 3}, {Integer.MIN_VALUE, 1},
            {Integer.MAX_VALUE, 2}, {0, Integer.MIN_VALUE}, {0, Integer.MAX_VALUE}};
        for (int[] w : wrong) {
            check.call("course(" + w[0] + ", " + w[1] + ")", () -> x.course(w[0], w[1]), Check.ARGUMENT);
        }
        for (int party = 0; party < 3; party++) {
            int p = party;
            check.call("course(" + p + ", 1)", () -> x.course(p, 1), 0);
            check.call("course(" + p + ", 2)", () -> x.course(p, 2), 0);
        }
        Check.days(x, 58);
        x.event(0, 1);
        check.call("course(0, 1) on day 58", () -> x.course(0, 1), 10);
        check.call("course(0, 2) on day 58", () -> x.course(0, 2), 10);
        x.nextDay();
        check.call("course(0, 1) on day 59", () -> x.course(0, 1), Check.ARGUMENT);
        check.call("course(0, 2) on day 59", () -> x.course(0, 2), Check.ARGUMENT);
        x.nextDay();
        check.call("course(0, 1) on day 60", () -> x.course(0, 1), Check.ARGUMENT);
        x.stop();
        check.call("course(0, 1) behind stop()", () -> x.course(0, 1), Check.STATE);
    }

    private static void theFirstThreat() {
        check.sentence("The first event of another party (5 times the party and the kind) behind which the state is not safe for the party and so many days, though it is now");
        for (int other = 0; other < 3; other++) {
            for (int kind = 0; kind < 5; kind++) {
                String deed = "" + (char) ('A' + other) + (char) ('a' + kind);
                for (int party = 0; party < 3; party++) {
                    String trouble = (char) ('A' + party) + "a0";
                    threat(deed + ">!" + trouble + ";" + deed + ">~" + trouble, party, 1,
                            other == party ? NONE : 5 * other + kind);
                }
            }
        }
        threat("Ce>!Aa0;Ce>~Aa0;Ca>!Aa0;Ca>~Aa0;Be>!Aa0;Be>~Aa0", 0, 1, 9);
        threat("Ce>!Aa0;Ce>~Aa0;Ca>!Aa0;Ca>~Aa0", 0, 1, 10);
        threat("Ae>!Ca0;Ae>~Ca0;Ba>!Ca0;Ba>~Ca0", 2, 1, 4);
        threat("s>!Aa0;s>!Ab0;Bb>!Ac0", 0, 1, 6);
        threat("s>!Aa0;Bb>!Ac0", 0, 1, NONE);
        threat("Ba>!Aa0;s>~Aa0", 0, 1, 5);
        threat("s>~Aa0;Ba>!Aa0", 0, 1, 5);
        threat("Ba>!Aa1;Ba>~Aa1", 0, 1, NONE);
        threat("Ba>!Aa1;Ba>~Aa1", 0, 2, 5);
        threat("Ba>!Aa2;Ba>~Aa2", 0, 2, NONE);
        threat("s>!Aa0;s>!Ba0;f1>~Aa0", 0, 1, 5);
        threat("s>!Aa0;s>~Aa0;s>?Aa0;s>~Ba0;s>?Ba0;Ba>!Ab0;Ba>!Ac0", 0, 1, 5);
    }

    private static void noThreat() {
        check.sentence("NONE when there is none, or it is not safe now.");
        threat("s>$AB1", 0, 2, NONE);
        threat("s>$AB0;".repeat(9) + "s>!Ae0", 0, 2, NONE);
        threat("Ba>!Aa0", 0, 2, NONE);
        threat("s>!Aa0;s>~Aa0", 0, 1, NONE);
        threat("s>!Aa0;s>~Aa0;Ba>!Ab0;Ba>~Ab0", 0, 1, NONE);
        threat("s>!Aa1;s>~Aa1;Ba>!Ab0;Ba>~Ab0", 0, 2, NONE);
        threat("s>!Aa1;s>~Aa1;Ba>!Ab0;Ba>~Ab0", 0, 1, 5);
    }

    private static void onlyEventsThatAreLookedAt() {
        check.sentence("(Only events that make no breach, and after which nothing is full, are looked at.)");
        threat("s>~Ba0;Ba>!Aa0;Ba>~Aa0", 0, 1, NONE);
        threat("s>~Ba0;x0>!Aa0;x0>~Aa0", 0, 1, NONE);
        threat("s>~Ba0;s>?Ba0;Ba>!Aa0;Ba>~Aa0", 0, 1, 5);
        threat("s>~Ba0;Ba>!Aa0;Ba>~Aa0;Ce>!Aa0;Ce>~Aa0", 0, 1, 14);
        PledgeMonitor x = Check.begun("Ba>!Aa0;Ba>~Aa0;Ba>?Cc9;Bb>?Cc9;Ce>!Aa0;Ce>~Aa0");
        Check.events(x, 1, 1, 7);
        check.call("an event up to eight powers", () -> x.threat(0, 1), 5);
        x.event(1, 1);
        check.call("an event up to nine powers", () -> x.threat(0, 1), 14);
        PledgeMonitor y = Check.begun("Ba>$AB9;Bb>!Aa0;Bb>~Aa0;Bb>$AB1");
        Check.events(y, 1, 0, 110);
        check.call("an event up to 991", () -> y.threat(0, 1), 6);
        y.event(1, 0);
        check.call("an event up to 1000", () -> y.threat(0, 1), NONE);
    }

    private static void threatThrows() {
        check.sentence("IllegalStateException, IllegalArgumentException: as for course().");
        PledgeMonitor x = new PledgeMonitor();
        check.call("threat(0, 1) without an agreement", () -> x.threat(0, 1), Check.STATE);
        Check.begin(x, "Ba>!Aa0;Ba>~Aa0");
        int[][] wrong = {{-1, 1}, {3, 1}, {0, 0}, {0, 3}, {0, -1}, {-1, 3}, {Integer.MIN_VALUE, 1},
            {Integer.MAX_VALUE, 2}, {0, Integer.MIN_VALUE}, {0, Integer.MAX_VALUE}};
        for (int[] w : wrong) {
            check.call("threat(" + w[0] + ", " + w[1] + ")", () -> x.threat(w[0], w[1]), Check.ARGUMENT);
        }
        check.call("threat(2, 1)", () -> x.threat(2, 1), NONE);
        Check.days(x, 58);
        check.call("threat(0, 1) on day 58", () -> x.threat(0, 1), 5);
        check.call("threat(0, 2) on day 58", () -> x.threat(0, 2), 5);
        x.nextDay();
        check.call("threat(0, 1) on day 59", () -> x.threat(0, 1), Check.ARGUMENT);
        check.call("threat(0, 2) on day 59", () -> x.threat(0, 2), Check.ARGUMENT);
        x.nextDay();
        check.call("threat(0, 1) on day 60", () -> x.threat(0, 1), Check.ARGUMENT);
        x.stop();
        check.call("threat(0, 1) behind stop()", () -> x.threat(0, 1), Check.STATE);
    }
}
