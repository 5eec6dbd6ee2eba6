/** Promises 5 and 7: which texts are agreements, and the faults of the others. */
final class FaultTest {
    private static final Check check = new Check();

    public static void main(String[] args) {
        check.each(
                FaultTest::charactersThatCantStand,
                FaultTest::textsThatEndTooEarly,
                FaultTest::wrongReferences,
                FaultTest::rounds,
                FaultTest::agreements,
                FaultTest::theSizeOfAText,
                FaultTest::nothingIsLeftOfOtherTexts,
                FaultTest::faultTellsOfTheLatestBegin);
        check.end();
    }

    private static void charactersThatCantStand() {
        for (String start : new String[] {"D", "S", "a", "e", "1", ">", "[", ";", "!", "$", "~", "?", "]"}) {
            check.fault(start + ">!Aa1", 0);
        }
        check.fault("Af>!Aa1", 1);
        check.fault("AA>!Aa1", 1);
        check.fault("xA>!Aa1", 1);
        check.fault("x:>!Aa1", 1);
        check.fault("f/>!Aa1", 1);
        check.fault("sa>!Aa1", 1);
        check.fault("s0>!Aa1", 1);
        check.fault("=0>!Aa1", 1);
        check.fault("Aaa>!Aa1", 2);
        check.fault("x12>!Aa1", 2);
        check.fault("s;>!Aa1", 1);
        check.fault("s[DB1]>!Aa1", 2);
        check.fault("s[AD1]>!Aa1", 3);
        check.fault("s[AA1]>!Aa1", 3);
        check.fault("s[CC1]>!Aa1", 3);
        check.fault("s[Aa1]>!Aa1", 3);
        check.fault("s[AB]>!Aa1", 4);
        check.fault("s[AB10]>!Aa1", 5);
        check.fault("s[>!Aa1", 2);
        check.fault("s[A>!Aa1", 3);
        check.fault("s[AB>!Aa1", 4);
        check.fault("s[1]>!Aa1", 2);
        check.fault("s[A1]>!Aa1", 3);
        check.fault("s[AB1>!Aa1", 5);
        check.fault("s[AB1][AB1]>!Aa1", 6);
        check.fault("s[AB1]!Aa1", 6);
        check.fault("s>Aa1", 2);
        check.fault("s>[AB1]!Aa1", 2);
        check.fault("s>>!Aa1", 2);
        check.fault("s>!aA1", 3);
        check.fault("s>!D", 3);
        check.fault("s>!AB1", 4);
        check.fault("s>~AB1", 4);
        check.fault("s>?Af1", 4);
        check.fault("s>!Aaa", 5);
        check.fault("s>!Aa12", 6);
        check.fault("s>!Aa1>", 6);
        check.fault("s>!1", 3);
        check.fault("s>!A1", 4);
        check.fault("s>!a1", 3);
        check.fault("s>$1", 3);
        check.fault("s>$A1", 4);
        check.fault("s>$AA1", 4);
        check.fault("s>$BB1", 4);
        check.fault("s>$Ab1", 4);
        check.fault("s>$ABA", 5);
        check.fault("s>=A", 3);
        check.fault("s>=01", 4);
        check.fault("s>!Aa1;;s>!Aa1", 7);
        check.fault(";s>!Aa1", 0);
        check.fault("s>!Aa1;q", 7);
        check.fault("x9>!Aa1;q", 8);
        check.fault("=>=0;q", 5);
    }

    private static void textsThatEndTooEarly() {
        for (String whole : new String[] {"Aa[BC3]>!Ce9", "x1[AB0]>$CA0", "f1>=1", "=>~Bb1", "s>?Aa0"}) {
            for (int end = 0; end < whole.length(); end++) {
                check.fault(whole.substring(0, end), end);
                check.fault("s>!Aa1;s>!Aa1;" + whole.substring(0, end), 14 + end);
            }
        }
    }

    private static void wrongReferences() {
        check.fault("x0>$AB1", 200);
        check.fault("x1>!Aa1", 200);
        check.fault("f0>~Aa1", 200);
        check.fault("f0>?Aa1", 200);
        check.fault("x0>?Aa1", 200);
        check.fault("x1>!Aa1;s>=0", 200);
        check.fault("s>!Aa1;x2>$AB1", 201);
        check.fault("s>=9", 200);
        check.fault("s>=1", 200);
        check.fault("s>!Aa1;=>=0;s>=3", 202);
        check.fault("s>=0;s>!Aa1;f3>!Aa1", 202);
        check.fault("s>=0;s>~Aa1;f1>!Aa1;x0>!Aa1", 202);
        check.fault("x1>=7;s>!Aa1", 200);
        check.fault("s>$AB1;f1>=0;x0>=5", 201);
    }

    private static void rounds() {
        check.fault("s>=0", 300);
        check.fault("=>=0", 300);
        check.fault("s>=1;s>=0", 300);
        check.fault("s>=1;s>=1", 301);
        check.fault("s>=2;s>$AB1;s>=3;s>=2", 302);
        check.fault("s>=1;s>=2;s>=3;s>=4;s>=5;s>=6;s>=7;s>=8;s>=9;s>=0", 300);
        check.fault("s>=1;s>=2;s>=3;s>=4;s>=5;s>=6;s>=7;s>=8;s>=9;s>=9", 309);
        check.fault("s>=1;s>=2;s>=3;s>=4;s>=5;s>=6;s>=7;s>=8;s>=9;s>=5", 305);
        check.fault("s>=4;s>=3;s>$AB1;s>=1;s>=4", 301);
        check.fault("Aa[AB9]>=0", 300);
    }

    private static void agreements() {
        check.fine("s>!Aa0", 1);
        check.fine("=>?Ce9", 1);
        check.fine("x0>~Aa1", 1);
        check.fine("x0>!Aa1", 1);
        check.fine("f0>!Aa1", 1);
        check.fine("Ce[CB9]>$BC0", 1);
        check.fine("s>=2;s>=2;s>$AB1", 3);
        check.fine("Aa>=1;f3>=2;x3>=3;x4>!Bb1;Cc>~Cc1", 5);
        check.fine("s>$AB1;s>$AC1;s>$BA1;s>$BC1;s>$CA1;s>$CB1;s>=0;s>=0;s>=0;s>=0", 10);
    }

    private static void theSizeOfAText() {
        String long9 = "Aa[AB1]>!Aa1;".repeat(8) + "Aa>!Aa1;";
        String full = long9 + "Aa>$AB12";
        check.eq("length", full.length(), 120);
        check.fault(full, 119);
        check.fine(long9 + "Aa>$AB1", 10);
        check.fine("Aa[AB1]>!Aa1;".repeat(7) + "Aa[AB1]>=9;Aa[AB1]>=9;Aa>!Aa1", 10);
        check.fault("s>=1;".repeat(10), 49);
        check.fault("s>$AB1;".repeat(10) + "s>$AB1", 69);
        check.fault("s>$AB1;".repeat(9) + "s>$AB1;", 69);
        check.fault("s>$AB1;".repeat(9), 63);
        String edge = "Aa[AB1]>!Aa1;".repeat(9);
        check.eq("length of the edge", edge.length(), 117);
        check.fault(edge + "Aa>", 120);
        check.fault(edge + "s>!", 120);
    }

    private static void nothingIsLeftOfOtherTexts() {
        PledgeMonitor x = new PledgeMonitor();
        for (int i = 0; i < 2; i++) {
            check.eq("begin() of three", Check.begin(x, "Aa>!Aa1;Aa>~Aa1;Aa>!Aa1"), 3);
        }
        Check.type(x, "s>!Aa1;x2>$AB1");
        check.call("begin() with x2 of two", x::begin, Check.ARGUMENT);
        check.eq("fault() with x2 of two", x.fault(), 201);
        check.eq("begin() of debts", Check.begin(x, "s>$AB1;s>$AB1;s>$AB1"), 3);
        check.eq("owed(0, 1)", x.owed(0, 1), 3);
        check.eq("begin() of terms", Check.begin(x, "s>!Aa1;s>~Aa1;s>?Aa1"), 3);
        check.eq("one of each", 100 * x.count(0) + 10 * x.count(1) + x.count(2), 111);
        Check.begin(x, "s[AB9]>!Aa1");
        Check.begin(x, "s[AB9]>!Aa1");
        Check.begin(x, "s>!Aa1");
        check.eq("no condition is left", x.count(0), 1);
        Check.type(x, "s>!Aa");
        check.call("begin() where a longer text has been", x::begin, Check.ARGUMENT);
        check.eq("fault() where a longer text has been", x.fault(), 5);
    }

    private static void faultTellsOfTheLatestBegin() {
        PledgeMonitor x = new PledgeMonitor();
        Check.type(x, "s>!");
        check.call("begin() of s>!", x::begin, Check.ARGUMENT);
        check.eq("fault() of s>!", x.fault(), 3);
        check.eq("fault() once more", x.fault(), 3);
        x.erase();
        x.stop();
        check.eq("fault() behind erase() and stop()", x.fault(), 3);
        Check.type(x, "s>!Aa3");
        check.eq("fault() before begin()", x.fault(), 3);
        check.call("begin()", x::begin, 1);
        check.eq("fault() of an agreement", x.fault(), -1);
        check.call("begin() of an empty text", x::begin, Check.ARGUMENT);
        check.eq("fault() of an empty text", x.fault(), 0);
        check.eq("the other agreement goes on", x.duty(0), 300);
        Check.type(x, "s>!Aa1;s>=0;s>=0;s>=0;s>=0;s>=0;s>=0;s>=0;s>=0");
        check.call("begin() that is full", x::begin, Check.UNSUPPORTED);
        check.eq("fault() of a full one", x.fault(), -1);
    }
}
