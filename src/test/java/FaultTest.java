/** Promises 5 and 7: which texts are agreements, and the faults of the others. */
final class FaultTest {
    private static final Check check = new Check();

    public static void main(String[] args) {
        charactersThatCantStand();
        textsThatEndTooEarly();
        wrongReferences();
        rounds();
        agreements();
        theSizeOfAText();
        nothingIsLeftOfOtherTexts();
        faultTellsOfTheLatestBegin();
        check.end();
    }

    private static void fault(String text, int want) {
        PledgeMonitor x = new PledgeMonitor();
        Check.type(x, text);
        check.call("begin() of " + text, x::begin, Check.ARGUMENT);
        check.eq("fault() of " + text, x.fault(), want);
        check.eq("erase() of " + text, x.erase(), text.length());
        check.eq("today() of " + text, x.today(), -1);
    }

    private static void fine(String text, int clauses) {
        PledgeMonitor x = new PledgeMonitor();
        Check.type(x, text);
        check.call("begin() of " + text, x::begin, clauses);
        check.eq("fault() of " + text, x.fault(), -1);
        check.eq("erase() of " + text, x.erase(), 0);
        check.eq("today() of " + text, x.today(), 0);
    }

    private static void charactersThatCantStand() {
        for (String start : new String[] {"D", "S", "a", "e", "1", ">", "[", ";", "!", "$", "~", "?", "]"}) {
            fault(start + ">!Aa1", 0);
        }
        fault("Af>!Aa1", 1);
        fault("AA>!Aa1", 1);
        fault("xA>!Aa1", 1);
        fault("x:>!Aa1", 1);
        fault("f/>!Aa1", 1);
        fault("sa>!Aa1", 1);
        fault("s0>!Aa1", 1);
        fault("=0>!Aa1", 1);
        fault("Aaa>!Aa1", 2);
        fault("x12>!Aa1", 2);
        fault("s;>!Aa1", 1);
        fault("s[DB1]>!Aa1", 2);
        fault("s[AD1]>!Aa1", 3);
        fault("s[AA1]>!Aa1", 3);
        fault("s[CC1]>!Aa1", 3);
        fault("s[Aa1]>!Aa1", 3);
        fault("s[AB]>!Aa1", 4);
        fault("s[AB10]>!Aa1", 5);
        fault("s[>!Aa1", 2);
        fault("s[A>!Aa1", 3);
        fault("s[AB>!Aa1", 4);
        fault("s[1]>!Aa1", 2);
        fault("s[A1]>!Aa1", 3);
        fault("s[AB1>!Aa1", 5);
        fault("s[AB1][AB1]>!Aa1", 6);
        fault("s[AB1]!Aa1", 6);
        fault("s>Aa1", 2);
        fault("s>[AB1]!Aa1", 2);
        fault("s>>!Aa1", 2);
        fault("s>!aA1", 3);
        fault("s>!D", 3);
        fault("s>!AB1", 4);
        fault("s>~AB1", 4);
        fault("s>?Af1", 4);
        fault("s>!Aaa", 5);
        fault("s>!Aa12", 6);
        fault("s>!Aa1>", 6);
        fault("s>!1", 3);
        fault("s>!A1", 4);
        fault("s>!a1", 3);
        fault("s>$1", 3);
        fault("s>$A1", 4);
        fault("s>$AA1", 4);
        fault("s>$BB1", 4);
        fault("s>$Ab1", 4);
        fault("s>$ABA", 5);
        fault("s>=A", 3);
        fault("s>=01", 4);
        fault("s>!Aa1;;s>!Aa1", 7);
        fault(";s>!Aa1", 0);
        fault("s>!Aa1;q", 7);
        fault("x9>!Aa1;q", 8);
        fault("=>=0;q", 5);
    }

    private static void textsThatEndTooEarly() {
        for (String whole : new String[] {"Aa[BC3]>!Ce9", "x1[AB0]>$CA0", "f1>=1", "=>~Bb1", "s>?Aa0"}) {
            for (int end = 0; end < whole.length(); end++) {
                fault(whole.substring(0, end), end);
                fault("s>!Aa1;s>!Aa1;" + whole.substring(0, end), 14 + end);
            }
        }
    }

    private static void wrongReferences() {
        fault("x0>$AB1", 200);
        fault("x1>!Aa1", 200);
        fault("f0>~Aa1", 200);
        fault("f0>?Aa1", 200);
        fault("x0>?Aa1", 200);
        fault("x1>!Aa1;s>=0", 200);
        fault("s>!Aa1;x2>$AB1", 201);
        fault("s>=9", 200);
        fault("s>=1", 200);
        fault("s>!Aa1;=>=0;s>=3", 202);
        fault("s>=0;s>!Aa1;f3>!Aa1", 202);
        fault("s>=0;s>~Aa1;f1>!Aa1;x0>!Aa1", 202);
        fault("x1>=7;s>!Aa1", 200);
        fault("s>$AB1;f1>=0;x0>=5", 201);
    }

    private static void rounds() {
        fault("s>=0", 300);
        fault("=>=0", 300);
        fault("s>=1;s>=0", 300);
        fault("s>=1;s>=1", 301);
        fault("s>=2;s>$AB1;s>=3;s>=2", 302);
        fault("s>=1;s>=2;s>=3;s>=4;s>=5;s>=6;s>=7;s>=8;s>=9;s>=0", 300);
        fault("s>=1;s>=2;s>=3;s>=4;s>=5;s>=6;s>=7;s>=8;s>=9;s>=9", 309);
        fault("s>=1;s>=2;s>=3;s>=4;s>=5;s>=6;s>=7;s>=8;s>=9;s>=5", 305);
        fault("s>=4;s>=3;s>$AB1;s>=1;s>=4", 301);
        fault("Aa[AB9]>=0", 300);
    }

    private static void agreements() {
        fine("s>!Aa0", 1);
        fine("=>?Ce9", 1);
        fine("x0>~Aa1", 1);
        fine("x0>!Aa1", 1);
        fine("f0>!Aa1", 1);
        fine("Ce[CB9]>$BC0", 1);
        fine("s>=2;s>=2;s>$AB1", 3);
        fine("Aa>=1;f3>=2;x3>=3;x4>!Bb1;Cc>~Cc1", 5);
        fine("s>$AB1;s>$AC1;s>$BA1;s>$BC1;s>$CA1;s>$CB1;s>=0;s>=0;s>=0;s>=0", 10);
    }

    private static void theSizeOfAText() {
        String long9 = "Aa[AB1]>!Aa1;".repeat(8) + "Aa>!Aa1;";
        String full = long9 + "Aa>$AB12";
        check.eq("length", full.length(), 120);
        fault(full, 119);
        fine(long9 + "Aa>$AB1", 10);
        fine("Aa[AB1]>!Aa1;".repeat(7) + "Aa[AB1]>=9;Aa[AB1]>=9;Aa>!Aa1", 10);
        fault("s>=1;".repeat(10), 49);
        fault("s>$AB1;".repeat(10) + "s>$AB1", 69);
        fault("s>$AB1;".repeat(9) + "s>$AB1;", 69);
        fault("s>$AB1;".repeat(9), 63);
        String edge = "Aa[AB1]>!Aa1;".repeat(9);
        check.eq("length of the edge", edge.length(), 117);
        fault(edge + "Aa>", 120);
        fault(edge + "s>!", 120);
    }

    private static void nothingIsLeftOfOtherTexts() {
        PledgeMonitor x = new PledgeMonitor();
        for (int i = 0; i < 2; i++) {
            check.eq("begin() of three", Check.begin(x, "Aa>!Aa1;Aa>~Aa1;Aa>!Aa1"), 3);
        }
        Check.type(x, "s>!Aa1;x2>$AB1");
        check.call("begin() with x2 of two", x::begin, Check.ARGUMENT);
        check.eq("fault() with x2 of two", x.fault(), 201);
        check.eq("begin() of debts", Check.begin(x, "s>$AB1;s>$AB1;s>$AB1"), 3);
        check.eq("owed(0, 1)", x.owed(0, 1), 3);
        check.eq("begin() of terms", Check.begin(x, "s>!Aa1;s>~Aa1;s>?Aa1"), 3);
        check.eq("one of each", 100 * x.count(0) + 10 * x.count(1) + x.count(2), 111);
        Check.begin(x, "s[AB9]>!Aa1");
        Check.begin(x, "s[AB9]>!Aa1");
        Check.begin(x, "s>!Aa1");
        check.eq("no condition is left", x.count(0), 1);
        Check.type(x, "s>!Aa");
        check.call("begin() where a longer text has been", x::begin, Check.ARGUMENT);
        check.eq("fault() where a longer text has been", x.fault(), 5);
    }

    private static void faultTellsOfTheLatestBegin() {
        PledgeMonitor x = new PledgeMonitor();
        Check.type(x, "s>!");
        check.call("begin() of s>!", x::begin, Check.ARGUMENT);
        check.eq("fault() of s>!", x.fault(), 3);
        check.eq("fault() once more", x.fault(), 3);
        x.erase();
        x.stop();
        check.eq("fault() behind erase() and stop()", x.fault(), 3);
        Check.type(x, "s>!Aa3");
        check.eq("fault() before begin()", x.fault(), 3);
        check.call("begin()", x::begin, 1);
        check.eq("fault() of an agreement", x.fault(), -1);
        check.call("begin() of an empty text", x::begin, Check.ARGUMENT);
        check.eq("fault() of an empty text", x.fault(), 0);
        check.eq("the other agreement goes on", x.duty(0), 300);
        Check.type(x, "s>!Aa1;s>=0;s>=0;s>=0;s>=0;s>=0;s>=0;s>=0;s>=0");
        check.call("begin() that is full", x::begin, Check.UNSUPPORTED);
        check.eq("fault() of a full one", x.fault(), -1);
    }
}
