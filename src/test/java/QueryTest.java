/** Promises 11 to 16: today, duty, count, breaches, may, owed. */
final class QueryTest {
    private static final Check check = new Check();

    public static void main(String[] args) {
        check.each(
                QueryTest::nothingWithoutAnAgreement,
                QueryTest::today,
                QueryTest::duty,
                QueryTest::count,
                QueryTest::breaches,
                QueryTest::may,
                QueryTest::owed);
        check.end();
    }

    private static void nothingWithoutAnAgreement() {
        PledgeMonitor x = new PledgeMonitor();
        check.eq("today()", x.today(), -1);
        check.eq("duty(0)", x.duty(0), -1);
        for (int i = -1; i < 4; i++) {
            check.eq("count(" + i + ")", x.count(i), 0);
            check.eq("breaches(" + i + ")", x.breaches(i), 0);
            check.eq("may(" + i + ", 0)", x.may(i, 0), -1);
            check.eq("owed(" + i + ", 1)", x.owed(i, 1), 0);
        }
    }

    private static void today() {
        PledgeMonitor x = Check.begun("s>!Aa9", 0, 1, 2);
        check.eq("today() at first", x.today(), 0);
        x.event(0, 0);
        check.eq("today() behind an event", x.today(), 0);
        x.nextDay();
        check.eq("today() though days are free", x.today(), 1);
        x.undo();
        check.eq("today() behind undo()", x.today(), 0);
        x.stop();
        check.eq("today() behind stop()", x.today(), -1);
    }

    private static void duty() {
        PledgeMonitor x = Check.begun("s>!Aa3;s>!Bb1;s>!Cc3;s>!Aa1;s>=1;s>!Ae0;Aa>!Ca9");
        int[] want = {5, 101, 101, 103, 300, 302, -1, -1};
        for (int i = 0; i < want.length; i++) {
            check.eq("duty(" + i + ")", x.duty(i), want[i]);
        }
        check.eq("duty(-1)", x.duty(-1), -1);
        check.eq("duty(Integer.MIN_VALUE)", x.duty(Integer.MIN_VALUE), -1);
        check.eq("duty(Integer.MAX_VALUE)", x.duty(Integer.MAX_VALUE), -1);
        x.event(1, 1);
        check.eq("duty(1) behind a fulfilment", x.duty(1), 101);
        check.eq("duty(2) behind a fulfilment", x.duty(2), 103);
        check.eq("duty(4) behind a fulfilment", x.duty(4), 302);
        check.eq("duty(5) behind a fulfilment", x.duty(5), -1);
        PledgeMonitor y = Check.begun("Aa>!Ca9;s>!Ca8");
        Check.events(y, 0, 0, 7);
        check.eq("duty(0) of eight", y.duty(0), 801);
        check.eq("duty(7) of eight", y.duty(7), 900);
        check.eq("duty(8) of eight", y.duty(8), -1);
    }

    private static void count() {
        PledgeMonitor x = Check.begun("s>!Aa3;s>!Ab3;s>!Ab3;s>~Ac3;s>~Ac3;s>?Ad3");
        check.eq("count(0)", x.count(0), 3);
        check.eq("count(1)", x.count(1), 2);
        check.eq("count(2)", x.count(2), 1);
        for (int what : new int[] {-1, 3, 4, Integer.MIN_VALUE, Integer.MAX_VALUE}) {
            check.eq("count(" + what + ")", x.count(what), 0);
        }
    }

    private static void breaches() {
        PledgeMonitor x = Check.begun("s>!Aa0;s>~Ab9;s>$AB1");
        Check.events(x, 0, 1, 3);
        x.nextDay();
        check.eq("breaches(0)", x.breaches(0), 1);
        check.eq("breaches(1)", x.breaches(1), 3);
        check.eq("breaches(2)", x.breaches(2), 0);
        for (int clause : new int[] {-1, 3, 9, 10, Integer.MIN_VALUE, Integer.MAX_VALUE}) {
            check.eq("breaches(" + clause + ")", x.breaches(clause), 0);
        }
        PledgeMonitor y = Check.begun("s>$AB0;".repeat(9) + "s>!Aa0");
        y.nextDay();
        check.eq("breaches(9)", y.breaches(9), 1);
        check.eq("breaches(10) of ten clauses", y.breaches(10), 0);
    }

    private static void may() {
        PledgeMonitor x = Check.begun("s>~Aa1;s>~Bb1;s>?Bb0;s>?Cc1;s>~Cd0");
        check.eq("may(0, 0), banned", x.may(0, 0), 2);
        check.eq("may(1, 1), banned with a power", x.may(1, 1), 1);
        check.eq("may(2, 2), a power without a ban", x.may(2, 2), 0);
        check.eq("may(2, 3), banned for today", x.may(2, 3), 2);
        check.eq("may(0, 1), another kind", x.may(0, 1), 0);
        check.eq("may(1, 0), another party", x.may(1, 0), 0);
        check.eq("may() spends nothing", x.count(2), 2);
        int[][] wrong = {{-1, 0}, {3, 0}, {0, -1}, {0, 5}, {Integer.MIN_VALUE, 0}, {0, Integer.MAX_VALUE}};
        for (int[] w : wrong) {
            check.eq("may(" + w[0] + ", " + w[1] + ")", x.may(w[0], w[1]), -1);
        }
        x.nextDay();
        check.eq("may(1, 1) without the power", x.may(1, 1), 2);
        check.eq("may(2, 3) on the next day", x.may(2, 3), 0);
    }

    private static void owed() {
        PledgeMonitor x = Check.begun("s>$AB1;s>$AC2;s>$BA3;s>$BC4;s>$CA5;s>$CB6");
        int[][] want = {{0, 1, 2}, {3, 0, 4}, {5, 6, 0}};
        for (int p = 0; p < 3; p++) {
            for (int q = 0; q < 3; q++) {
                check.eq("owed(" + p + ", " + q + ")", x.owed(p, q), want[p][q]);
            }
        }
        for (int p : new int[] {-1, 3, Integer.MIN_VALUE, Integer.MAX_VALUE}) {
            check.eq("owed(" + p + ", 0)", x.owed(p, 0), 0);
            check.eq("owed(0, " + p + ")", x.owed(0, p), 0);
            check.eq("owed(2, " + p + ")", x.owed(2, p), 0);
        }
    }
}
