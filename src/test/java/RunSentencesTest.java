/**
 * The sentences of the document on days, states, events and ends of days that name a boundary case,
 * each with a test of its own: of "Terms", and of promises 8 and 9.
 */
final class RunSentencesTest {
    private static final Check check = new Check();
    private static final String[] TERMS = {"!", "~", "?"};

    public static void main(String[] args) {
        check.each(
                RunSentencesTest::daysAre0To60,
                RunSentencesTest::businessDays,
                RunSentencesTest::daysBehind60,
                RunSentencesTest::untilSoManyBusinessDays,
                RunSentencesTest::untilSoManyDays,
                RunSentencesTest::debtsUpTo999,
                RunSentencesTest::breachesWithoutALimit,
                RunSentencesTest::atMostEight,
                RunSentencesTest::alsoWhenItHasOne,
                RunSentencesTest::waitsBehindAllOthers,
                RunSentencesTest::itIsFull,
                RunSentencesTest::aPowerIsSpent,
                RunSentencesTest::otherwiseEachBan,
                RunSentencesTest::oneDutyIsFulfilled,
                RunSentencesTest::whatAnEventRuns,
                RunSentencesTest::dutiesThatAreDue,
                RunSentencesTest::whatADayRuns,
                RunSentencesTest::whatHasPassed,
                RunSentencesTest::eventThrows,
                RunSentencesTest::nextDayThrows);
        check.end();
    }

    private static void daysAre0To60() {
        check.sentence("DAYS are 0 .. 60");
        PledgeMonitor x = Check.begun("s>$AB1");
        for (int day = 0; day < 60; day++) {
            check.eq("today()", x.today(), day);
            check.call("nextDay()", x::nextDay, 0);
        }
        check.eq("today() at last", x.today(), 60);
        check.call("nextDay() on day 60", x::nextDay, Check.STATE);
        check.eq("today() stays", x.today(), 60);
    }

    private static void businessDays() {
        check.sentence("n BUSINESS DAYS FROM a day is the day itself for n = 0, else the n-th business day behind it");
        PledgeMonitor x = Check.begun("s>!Aa0;s>!Aa1;s>!Aa2;s>!Aa9");
        check.same("from a business day", dutiesOf(x), "0 101 202 903");
        PledgeMonitor y = Check.begun("s>!Aa0;s>!Aa1;s>!Aa2;s>!Aa9", 0);
        check.same("from a free day", dutiesOf(y), "0 101 202 903");
        PledgeMonitor z = Check.begun("s>!Aa0;s>!Aa1;s>!Aa2;s>!Aa9", 0, 1, 2, 4, 12);
        check.same("over free days", dutiesOf(z), "0 301 502 1303");
    }

    private static void daysBehind60() {
        check.sentence("(days behind 60 are business days)");
        int[] all = new int[61];
        for (int d = 0; d <= 60; d++) {
            all[d] = d;
        }
        check.same("all days are free", dutiesOf(Check.begun("s>!Aa0;s>!Aa1;s>!Aa9", all)), "0 6101 6902");
        PledgeMonitor x = Check.begun("Ab>!Aa0;Ab>!Aa1;Ab>!Aa9", 60);
        Check.days(x, 59);
        x.event(0, 1);
        check.same("from day 59, and day 60 is free", dutiesOf(x), "5900 6101 6902");
        PledgeMonitor y = Check.begun("Ab>!Aa0;Ab>!Aa1;Ab>!Aa9");
        Check.days(y, 59);
        y.event(0, 1);
        check.same("from day 59", dutiesOf(y), "5900 6001 6802");
        PledgeMonitor z = Check.begun("Ab>!Aa0;Ab>!Aa1;Ab>!Aa9", 60);
        Check.days(z, 60);
        z.event(0, 1);
        check.same("from day 60", dutiesOf(z), "6000 6101 6902");
    }

    private static void untilSoManyBusinessDays() {
        check.sentence("a DUTY of that party to do that until so many business days from now");
        for (int digit = 0; digit <= 9; digit++) {
            PledgeMonitor x = Check.begun("s>!Aa" + digit + ";s>!Bb" + digit + ";f0>$AB1", 2, 3);
            Check.days(x, digit < 2 ? digit : digit + 2);
            check.eq("both are there on their last day " + x.today(), x.count(0), 2);
            check.call("one is done on that day", () -> x.event(0, 0), 0);
            check.eq("which is not too late", x.owed(0, 1), 1);
            check.call("the other one is not", x::nextDay, 1);
            check.eq("breaches", 10 * x.breaches(0) + x.breaches(1), 1);
            check.eq("none is left", x.count(0), 0);
        }
    }

    private static void untilSoManyDays() {
        check.sentence("a BAN for that party to do that, until so many days from now; a POWER, until so many days from now");
        for (int digit = 0; digit <= 9; digit++) {
            PledgeMonitor x = Check.begun("s>~Aa" + digit + ";s>?Bb" + digit, 0, 1, 2, 3);
            Check.days(x, digit);
            check.eq("a ban on its last day " + digit, x.count(1), 1);
            check.eq("a power on its last day " + digit, x.count(2), 1);
            x.nextDay();
            check.eq("a ban behind day " + digit, x.count(1), 0);
            check.eq("a power behind day " + digit, x.count(2), 0);
        }
        PledgeMonitor x = Check.begun("Ab>~Aa9;Ab>?Aa9;Ac>~Aa0");
        Check.days(x, 60);
        x.event(0, 1);
        x.event(0, 2);
        check.eq("on day 60", 10 * x.count(1) + x.count(2), 21);
    }

    private static void debtsUpTo999() {
        check.sentence("debts of each party to each other one (0 .. 999)");
        String[] pairs = {"AB", "AC", "BA", "BC", "CA", "CB"};
        for (String pair : pairs) {
            PledgeMonitor x = Check.begun("Aa>$AB9;Aa>$AC9;Aa>$BA9;Aa>$BC9;Aa>$CA9;Aa>$CB9;Ab>$" + pair + "1;Ac>$" + pair + "0");
            Check.events(x, 0, 0, 111);
            for (String each : pairs) {
                check.eq("owed by " + each, x.owed(each.charAt(0) - 'A', each.charAt(1) - 'A'), 999);
            }
            check.call("0 more of " + pair, () -> x.event(0, 2), 0);
            check.call("1 more of " + pair, () -> x.event(0, 1), Check.UNSUPPORTED);
        }
        PledgeMonitor y = Check.begun("Aa>$AB9;Ab>$AB1;Ac>$AB2");
        Check.events(y, 0, 0, 110);
        Check.events(y, 0, 1, 8);
        check.eq("owed(0, 1)", y.owed(0, 1), 998);
        check.call("998 and 2", () -> y.event(0, 2), Check.UNSUPPORTED);
        check.call("998 and 1", () -> y.event(0, 1), 0);
        check.eq("owed(0, 1) then", y.owed(0, 1), 999);
    }

    private static void breachesWithoutALimit() {
        check.sentence("for each clause how many breaches there were");
        PledgeMonitor x = Check.begun("s>~Aa9" + ";s>=0".repeat(7));
        Check.events(x, 0, 0, 400);
        check.eq("breaches(0) of 400 events with eight bans", x.breaches(0), 3200);
        check.eq("breaches(1)", x.breaches(1), 0);
    }

    private static void atMostEight() {
        check.sentence("There are at most 8 duties, 8 bans, 8 powers.");
        PledgeMonitor x = Check.begun("Aa>!Bb9;Aa>~Bc9;Aa>?Bd9;Ab>!Bb9;Ac>~Bc9;Ad>?Bd9");
        Check.events(x, 0, 0, 8);
        for (int what = 0; what < 3; what++) {
            int kind = what + 1;
            check.eq("count(" + what + ")", x.count(what), 8);
            check.call("a ninth " + TERMS[what], () -> x.event(0, kind), Check.UNSUPPORTED);
            check.eq("count(" + what + ") behind it", x.count(what), 8);
        }
        for (int what = 0; what < 3; what++) {
            PledgeMonitor y = Check.begun("Aa>" + TERMS[what] + "Bb9;Ab>" + TERMS[what] + "Cc5");
            Check.events(y, 0, 0, 7);
            check.call("an eighth " + TERMS[what] + " of another clause", () -> y.event(0, 1), 0);
            check.call("a ninth one of it", () -> y.event(0, 1), Check.UNSUPPORTED);
            check.call("a ninth one of the first clause", () -> y.event(0, 0), Check.UNSUPPORTED);
        }
    }

    private static void alsoWhenItHasOne() {
        check.sentence("a duty, ban or power of this clause begins (also when it has one already)");
        PledgeMonitor x = Check.begun("Ae>!Aa3;Ae>~Ab3;Ae>?Ac3");
        for (int many = 1; many <= 3; many++) {
            x.event(0, 4);
            check.eq("so many of each", 100 * x.count(0) + 10 * x.count(1) + x.count(2), 111 * many);
        }
        check.same("all with the same day", dutiesOf(x), "300 300 300");
        check.eq("a breach of each ban", x.event(0, 1), 3);
    }

    private static void waitsBehindAllOthers() {
        check.sentence("the clause that = names waits behind all others (whatever its trigger is)");
        for (String trigger : new String[] {"Ae", "x4", "f4", "="}) {
            PledgeMonitor x = Check.begun("Aa>=2;Aa>$AB1;" + trigger + "[AB0]>$CA1;Aa[CA0]>$CB1;=>!Aa9");
            x.event(0, 0);
            check.eq("a clause with the trigger " + trigger + " runs", x.owed(2, 0), 1);
            check.eq("behind all others", x.owed(2, 1), 0);
        }
        PledgeMonitor x = Check.begun("s>=2;s>$AB1;s[AB0]>$CA1;s[CA1]>$CB1");
        check.eq("a clause with the trigger s runs twice", x.owed(2, 0), 2);
        check.eq("and the second time behind all others", x.owed(2, 1), 0);
        PledgeMonitor y = Check.begun("s>=3;s>=2;=>$AB1;=[AB0]>$CA1");
        check.eq("of two that are named, the first one named runs first", y.owed(2, 0), 0);
        PledgeMonitor z = Check.begun("s>=1;=>=2;=>$AB1;s>=4;=[AB0]>$CA1");
        check.eq("what is named later waits behind what was named before", z.owed(2, 0), 0);
    }

    private static void itIsFull() {
        check.sentence("A duty, ban or power too many, or a debt above 999: it is FULL.");
        for (String term : TERMS) {
            PledgeMonitor x = Check.begun("Aa>" + term + "Bb9;Ab>=0;Ab>=0;Ac[AB0]>=0;Ad>=0");
            Check.events(x, 0, 0, 7);
            check.call("two more of " + term + " than seven", () -> x.event(0, 1), Check.UNSUPPORTED);
            check.call("one more than seven", () -> x.event(0, 3), 0);
            check.call("one more whose condition does not hold", () -> x.event(0, 2), 0);
            check.call("one more than eight", () -> x.event(0, 3), Check.UNSUPPORTED);
        }
        PledgeMonitor y = Check.begun("Aa>$AB9;Ab>$AB9;Ab>$AB1;s>!Cc0;x3>$AB5");
        Check.events(y, 0, 0, 110);
        check.call("990 and 9 and 1", () -> y.event(0, 1), Check.UNSUPPORTED);
        check.eq("none of them counts", y.owed(0, 1), 990);
        check.call("990 and 9", () -> y.event(0, 0), 0);
        check.call("the end of a day with 5 more", y::nextDay, Check.UNSUPPORTED);
    }

    private static void aPowerIsSpent() {
        check.sentence("if there is a power of that party and kind, one is spent (the one with the least day; of these the one of the least clause)");
        PledgeMonitor x = Check.begun("s>~Aa9;s>~Aa8;s>?Aa2;s>?Aa0;s>?Aa1;s>?Ab9;s>?Ba9");
        check.call("two bans, and three powers", () -> x.event(0, 0), 0);
        check.eq("one is spent", x.count(2), 4);
        x.nextDay();
        check.eq("none passed with day 0", x.count(2), 4);
        check.call("two powers", () -> x.event(0, 0), 0);
        x.nextDay();
        check.eq("none passed with day 1", x.count(2), 3);
        check.call("one power", () -> x.event(0, 0), 0);
        check.eq("may(0, 0) then", x.may(0, 0), 2);
        check.call("no power", () -> x.event(0, 0), 2);
        check.eq("those of others stay", x.count(2), 2);
        PledgeMonitor y = Check.begun("s>~Aa9;s>?Aa3;s>?Aa3");
        y.event(0, 0);
        check.eq("one of two that last until the same day", y.count(2), 1);
        PledgeMonitor z = Check.begun("s>?Aa3;s>~Ab3;s>~Ba3");
        z.event(0, 0);
        check.eq("none where nothing is banned", z.count(2), 1);
    }

    private static void otherwiseEachBan() {
        check.sentence("otherwise each such ban has a breach of its clause");
        PledgeMonitor x = Check.begun("s>~Aa0;s>~Aa9;s>=1;s>~Ab9;s>~Ba9;s>!Aa9");
        check.call("event(0, 0) with three bans", () -> x.event(0, 0), 3);
        check.eq("breaches(0)", x.breaches(0), 1);
        check.eq("breaches(1), of which there are two", x.breaches(1), 2);
        check.eq("breaches of others", x.breaches(2) + x.breaches(3) + x.breaches(4) + x.breaches(5), 0);
        check.eq("bans do not end by it", x.count(1), 5);
        PledgeMonitor y = Check.begun("Ab>~Aa9");
        Check.events(y, 0, 1, 8);
        check.call("eight bans", () -> y.event(0, 0), 8);
        check.call("none", () -> y.event(0, 2), 0);
    }

    private static void oneDutyIsFulfilled() {
        check.sentence("of the duties of that party and kind, the one with the least day (of these the least clause) is fulfilled, and ends");
        PledgeMonitor x = Check.begun("s>!Aa5;s>!Aa4;s>!Aa4;s>=1;s>!Ab0;s>!Ba0");
        check.same("before", dutiesOf(x), "4 5 401 401 402 500");
        String[] then = {"4 5 401 402 500", "4 5 402 500", "4 5 500", "4 5", "4 5"};
        for (String left : then) {
            check.call("event(0, 0)", () -> x.event(0, 0), 0);
            check.same("left", dutiesOf(x), left);
        }
        PledgeMonitor y = Check.begun("s>!Ab0;x0>!Aa0;s>!Aa1;f1>$AB1;f2>$AC1");
        y.nextDay();
        y.event(0, 0);
        check.eq("one whose day has been is the least", y.owed(0, 1), 1);
        check.same("the other one is left", dutiesOf(y), "102");
    }

    private static void whatAnEventRuns() {
        check.sentence("behind them for each breach, by the number of the ban's clause (a clause with two such bans twice), those that it triggers, by number; behind them those that the fulfilled duty triggers");
        // Each of these runs in its turn only: the debts of A to B say which turn it is.
        String begin = "s>~Aa5;s>=0;s>~Aa1;s>!Aa9;";
        PledgeMonitor x = Check.begun(begin + "f3[AB4]>$CA1;x2[AB3]>$AB1;x0[AB0]>$AB1;Aa>$AB1;x0>$CB1");
        check.call("event(0, 0)", () -> x.event(0, 0), 3);
        check.eq("1 by the event, 2 by two bans of clause 0, none by clause 2 yet", x.owed(0, 1), 3);
        check.eq("twice by clause 0", x.owed(2, 1), 2);
        PledgeMonitor y = Check.begun(begin + "f3[AB3]>$CA1;x2[AB2]>$AB1;x0[AB0]>$AB1;Aa>$AB1");
        y.event(0, 0);
        check.eq("event, clause 0 twice, clause 2", y.owed(0, 1), 4);
        check.eq("then the duty", y.owed(2, 0), 1);
        PledgeMonitor z = Check.begun("s>~Aa9;s>=0;x0[AC1]>$CA1;x0>$AC1;x0[AC1]>$CB1");
        z.event(0, 0);
        check.eq("by number, then once more by number", 10 * z.owed(2, 0) + z.owed(2, 1), 1);
        check.eq("and each time all of them", z.owed(0, 2), 2);
        PledgeMonitor w = Check.begun("f1>$AB1;s>!Aa9;s>!Aa9;f2>$AC1;Aa[AB0]>$CA1;Aa[AC0]>$CA1");
        w.event(0, 0);
        check.eq("one duty alone, behind the event's clauses",
                100 * w.owed(0, 1) + 10 * w.owed(0, 2) + w.owed(2, 0), 100);
    }

    private static void dutiesThatAreDue() {
        check.sentence("each duty whose day is this one, or an earlier one, ends with a breach of its clause");
        PledgeMonitor x = Check.begun("s>!Aa0;s>!Bb1;s>!Cc2;x0>!Ad0;x0>!Ad1");
        check.call("the end of day 0", x::nextDay, 1);
        check.same("left behind day 0", dutiesOf(x), "3 101 104 202");
        check.call("the end of day 1", x::nextDay, 3);
        check.same("left behind day 1", dutiesOf(x), "202");
        check.call("the end of day 2", x::nextDay, 1);
        check.same("left behind day 2", dutiesOf(x), "");
        check.call("the end of day 3", x::nextDay, 0);
        for (int clause = 0; clause < 5; clause++) {
            check.eq("breaches(" + clause + ")", x.breaches(clause), 1);
        }
        PledgeMonitor y = Check.begun("Ab>!Aa0");
        Check.events(y, 0, 1, 8);
        check.call("eight on one day", y::nextDay, 8);
        check.eq("breaches(0)", y.breaches(0), 8);
        PledgeMonitor z = Check.begun("Ab>!Aa0");
        Check.days(z, 59);
        z.event(0, 1);
        check.call("the end of day 59", z::nextDay, 1);
    }

    private static void whatADayRuns() {
        check.sentence("for each of these, by the number of the clause (a clause with two such duties twice), the clauses that it triggers wait, by number, and run");
        // Clause 1 has the earlier day, yet clause 0 has the lower number.
        PledgeMonitor x = Check.begun("s>!Aa1;s>!Ab0;x2>!Ab0;x1>!Ac0;x0>$AB1;x3[AB0]>$CA1;x3>$AC1;x0[AC0]>$CB1");
        x.nextDay();
        check.same("duties of a day that has been", dutiesOf(x), "3 100");
        check.call("the end of day 1", x::nextDay, 2);
        check.eq("what clause 0 starts runs before what clause 3 starts", x.owed(2, 0), 1);
        check.eq("not behind it", x.owed(2, 1), 0);
        PledgeMonitor y = Check.begun("s>!Aa0;s>=0;x0[AB1]>$CA1;x0>$AB1;x0[AB1]>$CB1");
        check.call("two duties of a clause", y::nextDay, 2);
        check.eq("twice", y.owed(0, 1), 2);
        check.eq("by number, then once more by number", 10 * y.owed(2, 0) + y.owed(2, 1), 1);
        PledgeMonitor z = Check.begun("s>!Aa0;s>!Ab0;x0>=4;x1>$AB1;=[AB0]>$CA1");
        z.nextDay();
        check.eq("what is named by = waits behind what all breaches start", z.owed(2, 0), 1);
        PledgeMonitor w = Check.begun("Ab>!Aa0;x0>!Aa9;x0>!Aa9;Ac>!Cc9");
        Check.events(w, 0, 1, 4);
        check.call("four that end, and eight that begin", w::nextDay, 4);
        check.eq("eight", w.count(0), 8);
    }

    private static void whatHasPassed() {
        check.sentence("Then it is the next day, and bans and powers whose day has passed end.");
        PledgeMonitor x = Check.begun("s>~Aa0;s>~Aa1;s>?Bb0;s>?Bb1;s>!Cc0;x4>~Ba0;x4>?Ba0;x4>~Ca1;x4>?Ca1");
        check.eq("on day 0", 10 * x.count(1) + x.count(2), 22);
        check.call("the end of day 0", x::nextDay, 1);
        check.eq("today()", x.today(), 1);
        check.eq("on day 1, and those that day 0 began count from day 0", 10 * x.count(1) + x.count(2), 22);
        check.eq("a ban until day 0 began and has passed", x.may(1, 0), 0);
        check.eq("a ban and a power until day 1", x.may(2, 0), 1);
        check.call("the end of day 1", x::nextDay, 0);
        check.eq("on day 2", 10 * x.count(1) + x.count(2), 0);
        for (String term : new String[] {"~", "?"}) {
            PledgeMonitor y = Check.begun("s>!Aa0;x0>" + term + "Ab9;Ac>" + term + "Ad0");
            Check.events(y, 0, 2, 8);
            check.call("no " + term + " ends before the clauses have run", y::nextDay, Check.UNSUPPORTED);
        }
    }

    private static void eventThrows() {
        check.sentence("IllegalStateException: there is no agreement; IllegalArgumentException: there is no such party or kind; UnsupportedOperationException: it would be full.");
        PledgeMonitor none = new PledgeMonitor();
        check.call("event(0, 0) without an agreement", () -> none.event(0, 0), Check.STATE);
        PledgeMonitor x = Check.begun("Aa>!Bb9");
        int[][] wrong = {{-1, 0}, {3, 0}, {0, -1}, {0, 5}, {-1, 5}, {3, -1},
            {Integer.MIN_VALUE, 0}, {Integer.MAX_VALUE, 0}, {0, Integer.MIN_VALUE}, {0, Integer.MAX_VALUE}};
        for (int[] w : wrong) {
            check.call("event(" + w[0] + ", " + w[1] + ")", () -> x.event(w[0], w[1]), Check.ARGUMENT);
        }
        for (int[] right : new int[][] {{0, 4}, {2, 0}, {2, 4}}) {
            check.call("event(" + right[0] + ", " + right[1] + ")", () -> x.event(right[0], right[1]), 0);
        }
        for (int i = 0; i < 8; i++) {
            check.call("event(0, 0)", () -> x.event(0, 0), 0);
        }
        check.call("event(0, 0) that is full", () -> x.event(0, 0), Check.UNSUPPORTED);
        x.stop();
        check.call("event(0, 0) behind stop()", () -> x.event(0, 0), Check.STATE);
        PledgeMonitor y = Check.begun("Aa>$AB1");
        Check.days(y, 60);
        check.call("event(0, 0) on day 60", () -> y.event(0, 0), 0);
        check.eq("owed(0, 1)", y.owed(0, 1), 1);
    }

    private static void nextDayThrows() {
        check.sentence("IllegalStateException: there is no agreement, or it is day 60; UnsupportedOperationException: it would be full.");
        PledgeMonitor x = new PledgeMonitor();
        check.call("nextDay() without an agreement", x::nextDay, Check.STATE);
        Check.begin(x, "Aa>!Bb0;x0>!Bb9;x0>!Bb9");
        Check.days(x, 59);
        Check.events(x, 0, 0, 5);
        check.call("nextDay() of five that end and ten that begin", x::nextDay, Check.UNSUPPORTED);
        x.event(1, 1);
        check.call("nextDay() of four that end and eight that begin", x::nextDay, 4);
        check.eq("today()", x.today(), 60);
        check.call("nextDay() on day 60", x::nextDay, Check.STATE);
        x.stop();
        check.call("nextDay() behind stop()", x::nextDay, Check.STATE);
    }

    private static String dutiesOf(PledgeMonitor x) {
        StringBuilder duties = new StringBuilder();
        for (int i = 0; x.duty(i) != PledgeMonitor.NONE && i < 9; i++) {
            duties.append(i == 0 ? "" : " ").append(x.duty(i));
        }
        return duties.toString();
    }
}
