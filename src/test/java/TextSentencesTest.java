/**
 * The sentences of the document on texts and their faults that name a boundary case, each with a
 * test of its own: of "Terms", and of promises 1 to 5 and 7.
 */
final class TextSentencesTest {
    private static final Check check = new Check();

    public static void main(String[] args) {
        check.each(
                TextSentencesTest::partiesAndKinds,
                TextSentencesTest::oneToTenClauses,
                TextSentencesTest::upTo120Characters,
                TextSentencesTest::numbers,
                TextSentencesTest::perhapsACondition,
                TextSentencesTest::theStart,
                TextSentencesTest::onlyAnActionStartsIt,
                TextSentencesTest::moreThanThat,
                TextSentencesTest::differentParties,
                TextSentencesTest::whatXAndFStandFor,
                TextSentencesTest::rounds,
                TextSentencesTest::theFirstCharacter,
                TextSentencesTest::endsTooEarly,
                TextSentencesTest::wrongReferences,
                TextSentencesTest::whatIsWrong,
                TextSentencesTest::firstOnARound,
                TextSentencesTest::aNewObject,
                TextSentencesTest::typeEndsAtZero,
                TextSentencesTest::typeEightAtMost,
                TextSentencesTest::typeIsRefused,
                TextSentencesTest::eraseTells,
                TextSentencesTest::freeTurns,
                TextSentencesTest::freeIsRefused,
                TextSentencesTest::inPlaceOfAnother,
                TextSentencesTest::itBegins,
                TextSentencesTest::howManyClauses,
                TextSentencesTest::beginThrows,
                TextSentencesTest::theLatestFault);
        check.end();
    }

    private static void partiesAndKinds() {
        check.sentence("PARTIES are A, B, C (0 .. 2), KINDS of events a .. e (0 .. 4).");
        for (int party = 0; party < 3; party++) {
            for (int kind = 0; kind < 5; kind++) {
                String deed = "" + (char) ('A' + party) + (char) ('a' + kind);
                PledgeMonitor x = Check.begun(deed + ">$AB1;s>~" + deed + "9");
                check.eq("may(" + party + ", " + kind + ") of " + deed, x.may(party, kind), 2);
                check.eq("event(" + party + ", " + kind + ") of " + deed, x.event(party, kind), 1);
                check.eq("owed(0, 1) of " + deed, x.owed(0, 1), 1);
            }
        }
        for (char c : new char[] {'@', 'D'}) {
            check.fault(c + "a>!Aa1", 0);
            check.fault("s>!" + c + "a1", 3);
            check.fault("s>~" + c + "a1", 3);
            check.fault("s>?" + c + "a1", 3);
            check.fault("s>$" + c + "A1", 3);
            check.fault("s>$A" + c + "1", 4);
            check.fault("s[" + c + "A1]>!Aa1", 2);
            check.fault("s[A" + c + "1]>!Aa1", 3);
        }
        for (char c : new char[] {'`', 'f'}) {
            check.fault("A" + c + ">!Aa1", 1);
            check.fault("s>!A" + c + "1", 4);
            check.fault("s>~A" + c + "1", 4);
            check.fault("s>?A" + c + "1", 4);
        }
    }

    private static void oneToTenClauses() {
        check.sentence("one to ten CLAUSES with ; between two of them");
        check.fault("", 0);
        check.fine("s>$AB1", 1);
        check.fine("s>$AB1;s>$AB1", 2);
        check.fine("s>$AB1;".repeat(9) + "s>$AB1", 10);
        check.fault("s>$AB1;".repeat(10) + "s>$AB1", 69);
        check.fault("s>$AB1;".repeat(10), 69);
        check.fault(";s>$AB1", 0);
        check.fault("s>$AB1;", 7);
        check.fault("s>$AB1;;s>$AB1", 7);
        check.fault("s>$AB1s>$AB1", 6);
    }

    private static void upTo120Characters() {
        check.sentence("A TEXT of up to 120 characters is an AGREEMENT");
        String whole = "Aa[AB1]>!Aa1;".repeat(7) + "Aa[AB1]>=9;Aa[AB1]>=9;Aa>!Aa1";
        check.eq("length of the longest agreement", whole.length(), 120);
        check.fine(whole, 10);
        PledgeMonitor x = new PledgeMonitor();
        Check.type(x, whole);
        check.no("a character more", x.type(';'));
        check.call("begin() though one more was refused", x::begin, 10);
    }

    private static void numbers() {
        check.sentence("they are numbered from 0, a number being one digit");
        PledgeMonitor x = Check.begun("s>=1;s>$AC1");
        check.eq("clause 1 is the second one", x.owed(0, 2), 2);
        PledgeMonitor y = Check.begun("x9>$AC1;f9>$BC1;" + "s>$AB0;".repeat(7) + "s>!Aa0");
        check.eq("duty(0) of clause 9", y.duty(0), 9);
        y.nextDay();
        check.eq("clause 9 is the tenth one", y.owed(0, 2), 1);
        check.eq("breaches(9)", y.breaches(9), 1);
        check.fault("x10>!Aa1", 2);
        check.fault("f10>!Aa1", 2);
        check.fault("s>=10", 4);
        for (char c : new char[] {'/', ':'}) {
            check.fault("x" + c + ">!Aa1", 1);
            check.fault("f" + c + ">!Aa1", 1);
            check.fault("s>=" + c, 3);
            check.fault("s>!Aa" + c, 5);
            check.fault("s>$AB" + c, 5);
            check.fault("s[AB" + c + "]>!Aa1", 4);
        }
    }

    private static void perhapsACondition() {
        check.sentence("A clause is a TRIGGER, perhaps a CONDITION, > and an ACTION");
        check.fine("s>$AB1", 1);
        check.fine("s[AB1]>$AB1", 1);
        check.fault("s[AB1][AB1]>$AB1", 6);
        check.fault("s[]>$AB1", 2);
        check.fault("[AB1]>$AB1", 0);
        check.fault(">$AB1", 0);
        check.fault("s$AB1", 1);
        check.fault("s[AB1]$AB1", 6);
        check.fault("s>;s>$AB1", 2);
        check.fault("s>$AB1$AB1", 6);
    }

    private static void theStart() {
        check.sentence("s, the start");
        PledgeMonitor x = Check.begun("s>$AB1;s>!Aa0;s>~Ab9");
        check.eq("it runs at the start", x.owed(0, 1), 1);
        x.event(0, 1);
        x.event(0, 0);
        x.nextDay();
        x.event(1, 3);
        check.eq("and not again", x.owed(0, 1), 1);
    }

    private static void onlyAnActionStartsIt() {
        check.sentence("= : only an action = of some clause");
        PledgeMonitor x = Check.begun("=>$AB1;s>!Aa0;s>~Ab9");
        x.event(0, 1);
        x.event(0, 0);
        x.nextDay();
        check.eq("begin, breach, fulfilment and day start it not", x.owed(0, 1), 0);
        PledgeMonitor y = Check.begun("=>$AB1;Aa>=0");
        y.event(0, 0);
        check.eq("an action does", y.owed(0, 1), 1);
    }

    private static void moreThanThat() {
        check.sentence("[ , two parties, a digit, ]: the first one owes the second one more than that");
        for (int limit = 0; limit <= 9; limit++) {
            PledgeMonitor x = Check.begun("Aa>$AB1;Ab[AB" + limit + "]>$CA1;Ab[BA" + limit + "]>$CB1");
            Check.events(x, 0, 0, limit);
            x.event(0, 1);
            check.eq("a debt of " + limit + " and a limit of " + limit, x.owed(2, 0), 0);
            x.event(0, 0);
            x.event(0, 1);
            check.eq("a debt one above " + limit, x.owed(2, 0), 1);
            check.eq("the other way round nothing is owed", x.owed(2, 1), 0);
        }
        for (String pair : new String[] {"AB", "AC", "BA", "BC", "CA", "CB"}) {
            PledgeMonitor x = Check.begun("s>$" + pair + "5;s[" + pair + "4]>!Aa1;s[" + pair + "5]>~Aa1");
            check.eq("5 is more than 4 of " + pair, x.count(0), 1);
            check.eq("5 is not more than 5 of " + pair, x.count(1), 0);
        }
    }

    private static void differentParties() {
        check.sentence("The two parties of $ or a condition are different.");
        for (String same : new String[] {"AA", "BB", "CC"}) {
            check.fault("s>$" + same + "1", 4);
            check.fault("s[" + same + "1]>!Aa1", 3);
        }
        for (String pair : new String[] {"AB", "AC", "BA", "BC", "CA", "CB"}) {
            check.fine("s[" + pair + "1]>$" + pair + "1", 1);
        }
    }

    private static void whatXAndFStandFor() {
        check.sentence("x stands for a clause with ! or ~, f for one with !.");
        check.fine("x1>$AB1;s>!Aa1", 2);
        check.fine("x1>$AB1;s>~Aa1", 2);
        check.fine("f1>$AB1;s>!Aa1", 2);
        check.fault("f1>$AB1;s>~Aa1", 200);
        for (String action : new String[] {"?Aa1", "$AB1", "=2"}) {
            check.fault("x1>$AB1;s>" + action + ";s>!Aa1", 200);
            check.fault("f1>$AB1;s>" + action + ";s>!Aa1", 200);
        }
        check.fine("x0>!Aa1;x1>~Aa1;f2>!Aa1", 3);
    }

    private static void rounds() {
        check.sentence("Clauses that start one another by = must not go round.");
        check.fault("s>=0", 300);
        check.fault("s>=1;s>=0", 300);
        check.fault("s>=1;s>=2;s>=3;s>=4;s>=5;s>=6;s>=7;s>=8;s>=9;s>=0", 300);
        check.fault("s[AB9]>=0", 300);
        check.fine("s>=1;s>=2;s>=3;s>=4;s>=5;s>=6;s>=7;s>=8;s>=9;s>$AB1", 10);
        check.fine("s>=3;s>=3;s>=3;s>$AB1", 4);
        check.fine("x1>!Aa1;x0>!Bb1", 2);
        check.fine("x1>=1;s>!Aa1;f1>=1", 3);
    }

    private static void theFirstCharacter() {
        check.sentence("the place (from 0) of the first character that can't stand where it does by what stands before it");
        check.fault("q", 0);
        check.fault("qqq", 0);
        check.fault("s>!Aq1;q", 4);
        check.fault("s>$AA1;s>$BB1", 4);
        check.fault("Aa[AB1]>!Aa1;".repeat(8) + "Aa>!Aa1;Aa>$AB12", 119);
        check.fault("Aa[AB1]>!Aa1;".repeat(9) + "s>q", 119);
        check.fault("x9>!Aa1;s>=0;q", 13);
        check.fault("s>=0;q", 5);
        for (String cut : new String[] {"s>$1", "s>!1", "s>~1", "s>?1", "s>!a1", "s>=;", "s>$;"}) {
            check.fault(cut, 3);
        }
        for (String cut : new String[] {"s>$A1", "s>!A1", "s>~A1", "s>?A1", "s>$A;", "s>!A;"}) {
            check.fault(cut, 4);
        }
        for (String cut : new String[] {"s[1]>$AB1", "s[]>$AB1", "s[>$AB1"}) {
            check.fault(cut, 2);
        }
        for (String cut : new String[] {"s[A1]>$AB1", "s[A]>$AB1", "s[A>$AB1"}) {
            check.fault(cut, 3);
        }
    }

    private static void endsTooEarly() {
        check.sentence("(the length, if the text ends too early)");
        for (String whole : new String[] {"Ce[CB9]>~Ce9", "x1[AB0]>$CA0", "f1>=1", "=>?Bb1", "s>!Aa0"}) {
            for (int end = 0; end < whole.length(); end++) {
                check.fault(whole.substring(0, end), end);
                check.fault("x9>=9;" + whole.substring(0, end), 6 + end);
            }
        }
        check.fault("Aa[AB1]>!Aa1;".repeat(9) + "Aa>", 120);
        check.fault("Aa[AB1]>!Aa1;".repeat(9) + "s>!", 120);
        check.fault("Aa[AB1]>!Aa1;".repeat(8) + "Aa[AB1]>$AB1;Aa[", 120);
    }

    private static void wrongReferences() {
        check.sentence("if there is none: 200 more than the number of the first clause in which x, f or = refers wrongly");
        check.fault("s>=9", 200);
        check.fault("x5>=9", 200);
        check.fault("s>!Aa1;f9>!Aa1;x9>!Aa1;s>=9", 201);
        check.fault("s>!Aa1;x9>!Aa1;f9>!Aa1;s>=9", 201);
        check.fault("s>!Aa1;s>=9;x9>!Aa1;f9>!Aa1", 201);
        check.fault("s>$AB1;".repeat(9) + "x8>!Aa1", 209);
        check.fault("s>=0;s>=1;s>=9", 202);
    }

    private static void whatIsWrong() {
        check.sentence("to a clause that is not there, or, for x and f, not of the kind wanted; = may name any that is there");
        for (int many = 1; many <= 9; many++) {
            String before = "s>!Aa9;".repeat(many - 1);
            check.fault(before + "x" + many + ">!Aa1", 199 + many);
            check.fault(before + "f" + many + ">!Aa1", 199 + many);
            check.fault(before + "s>=" + many, 199 + many);
            check.fine(before + "x" + (many - 1) + ">!Aa1", many);
            check.fine(before + "f" + (many - 1) + ">!Aa1", many);
            check.fine("s>=" + many + ";" + "=>$AB1;".repeat(many - 1) + "=>$AB1", many + 1);
        }
        PledgeMonitor x = new PledgeMonitor();
        Check.begin(x, "s>!Aa1;s>!Aa1;s>!Aa1");
        Check.begin(x, "s>!Aa1;s>!Aa1;s>!Aa1");
        for (String wrong : new String[] {"s>$AB1;x2>$AB1", "s>$AB1;f2>$AB1", "s>$AB1;s>=2"}) {
            x.erase();
            Check.type(x, wrong);
            check.call("begin() of " + wrong + " behind one that has clause 2", x::begin, Check.ARGUMENT);
            check.eq("fault() of it", x.fault(), 201);
        }
        for (String there : new String[] {"s>!Aa1", "Aa>~Aa1", "x0>?Aa1", "f0>$AB1", "=>=0"}) {
            check.fine("s>!Aa1;" + there + ";s>=1", 3);
        }
    }

    private static void firstOnARound() {
        check.sentence("if there is none either: 300 more than the first clause that lies on a round");
        check.fault("s>=0;s>=1", 300);
        check.fault("s>=1;s>=1", 301);
        check.fault("s>=1;s>=2;s>=1", 301);
        check.fault("s>=3;s>$AB1;s>=3;s>=2", 302);
        check.fault("s>=1;s>=2;s>=3;s>=4;s>=5;s>=6;s>=7;s>=8;s>=9;s>=9", 309);
        check.fault("s>=1;s>=2;s>=3;s>=4;s>=5;s>=6;s>=7;s>=8;s>=9;s>=1", 301);
        check.fault("s>=9;s>=8;s>$AB1;s>$AB1;s>$AB1;s>$AB1;s>$AB1;s>$AB1;s>=1;s>=0", 300);
        check.fault("s>=0;s>=7", 201);
    }

    private static void aNewObject() {
        check.sentence("No text, no agreement; no free days.");
        check.eq("erase()", new PledgeMonitor().erase(), 0);
        PledgeMonitor x = new PledgeMonitor();
        check.call("begin()", x::begin, Check.ARGUMENT);
        check.eq("today()", x.today(), -1);
        check.no("stop()", x.stop());
        for (int d = 0; d <= 60; d++) {
            check.yes("free(" + d + ")", x.free(d));
        }
    }

    private static void typeEndsAtZero() {
        check.sentence("the lowest 8 bits of row, the next 8, and so on, up to the first that are 0");
        PledgeMonitor x = new PledgeMonitor();
        check.yes("type(0)", x.type(0));
        check.eq("erase() of none", x.erase(), 0);
        for (int many = 1; many < 8; many++) {
            long row = 0x7373737373737373L >>> 8 * (8 - many);
            check.yes("type of " + many, x.type(row));
            check.eq("erase() of " + many, x.erase(), many);
            if (many < 7) {
                check.yes("bits behind the first that are 0", x.type(row | 0xffL << 8 * (many + 1)));
                check.eq("erase() without them", x.erase(), many);
            }
        }
        check.yes("type of 0 in front of others", x.type(0x7373737373737300L));
        check.eq("erase() of nothing", x.erase(), 0);
        x.type(0x3e73L);
        x.type(0x3142412400L);
        x.type(0x31424124L);
        check.call("begin() of s> and $AB1", x::begin, 1);
    }

    private static void typeEightAtMost() {
        check.sentence("eight at most");
        PledgeMonitor x = new PledgeMonitor();
        check.yes("type of eight", x.type(Check.row("s>$AB1;s", 0)));
        check.yes("type of the others", x.type(Check.row(">$AB1", 0)));
        check.call("begin() of both", x::begin, 2);
        check.yes("type of eight 126", x.type(0x7e7e7e7e7e7e7e7eL));
        check.eq("erase()", x.erase(), 8);
    }

    private static void typeIsRefused() {
        check.sentence("Answers true; false when one is not 33 .. 126, or there would be more than 120.");
        for (int place = 0; place < 8; place++) {
            PledgeMonitor x = new PledgeMonitor();
            long before = place == 0 ? 0 : 0x7373737373737373L >>> 8 * (8 - place);
            for (int c = 1; c < 256; c++) {
                check.eq("type of " + c + " at " + place, x.type(before | (long) c << 8 * place) ? 1 : 0,
                        c >= 33 && c <= 126 ? 1 : 0);
                check.eq("erase()", x.erase(), c >= 33 && c <= 126 ? place + 1 : 0);
            }
        }
        for (int room = 0; room <= 8; room++) {
            for (int many = 0; many <= 8; many++) {
                PledgeMonitor x = new PledgeMonitor();
                Check.type(x, "s".repeat(120 - room));
                long row = many == 0 ? 0 : 0x7373737373737373L >>> 8 * (8 - many);
                check.eq("type of " + many + " with room for " + room, x.type(row) ? 1 : 0, many <= room ? 1 : 0);
                check.eq("erase() of it", x.erase(), many <= room ? 120 - room + many : 120 - room);
            }
        }
    }

    private static void eraseTells() {
        check.sentence("The text has no characters then. Answers how many it had.");
        for (int many : new int[] {0, 1, 119, 120}) {
            PledgeMonitor x = new PledgeMonitor();
            Check.type(x, "s".repeat(many));
            check.eq("erase() of " + many, x.erase(), many);
            check.eq("erase() behind it", x.erase(), 0);
            check.call("begin() behind it", x::begin, Check.ARGUMENT);
            check.eq("fault() behind it", x.fault(), 0);
            check.yes("type of 120 behind it", Check.type(x, "s".repeat(120)));
        }
    }

    private static void freeTurns() {
        check.sentence("Day d is free from now on, if it is not, and not any more, if it is.");
        for (int d : new int[] {0, 1, 59, 60}) {
            PledgeMonitor x = new PledgeMonitor();
            check.yes("free(" + d + ")", x.free(d));
            check.no("free(" + d + ") again", x.free(d));
            check.yes("free(" + d + ") once more", x.free(d));
            check.eq("other days", x.free(d == 0 ? 60 : d - 1) && x.free(d == 60 ? 0 : d + 1) ? 1 : 0, 1);
        }
        PledgeMonitor x = Check.begun("s>!Aa1", 1, 2, 2);
        check.eq("a day that was turned twice is none", x.duty(0), 200);
    }

    private static void freeIsRefused() {
        check.sentence("Answers whether it is free then; false, too, when d is not 0 .. 60, or an agreement runs.");
        for (int d : new int[] {-1, 61, 69, -60, Integer.MIN_VALUE, Integer.MAX_VALUE}) {
            check.refused("free(" + d + ")", PledgeMonitor::new, x -> x.free(d) ? 1 : 0, 0);
        }
        for (int d : new int[] {0, 1, 2, 60, -1, 61}) {
            check.refused("free(" + d + ") while it runs", () -> Check.begun("s>!Aa1;Aa>!Aa2", 0, 1),
                    x -> x.free(d) ? 1 : 0, 0);
        }
        PledgeMonitor x = Check.begun("s>!Aa1");
        x.stop();
        check.yes("free(1) when it runs no more", x.free(1));
    }

    private static void inPlaceOfAnother() {
        check.sentence("The text becomes the agreement, in place of another one, which ends; the text has no characters then.");
        PledgeMonitor x = Check.begun("Aa>$AB1;s>!Aa9;s>~Bb9");
        check.eq("erase() behind begin()", x.erase(), 0);
        Check.type(x, "Ab>$AC1");
        check.call("begin() of another one", x::begin, 1);
        check.eq("erase() behind another one", x.erase(), 0);
        x.event(0, 0);
        x.event(0, 1);
        check.eq("the other one has ended", x.owed(0, 1) + x.count(0) + x.count(1), 0);
        check.eq("the new one runs", x.owed(0, 2), 1);
        check.yes("stop() ends it", x.stop());
        check.no("there is none behind it", x.stop());
        String[] texts = {"s>!Aa1", "Aa>$BC1", "s[AB0]>?Aa1", "=>~Aa1", "x1>$CB1;s>~Aa1", "f1>$CA1;s>!Aa1",
            "s>=1;=>$AB1", "s>~Aa1", "s>?Aa1", "s>$AC1"};
        for (String old : texts) {
            for (String text : texts) {
                PledgeMonitor y = Check.begun(old);
                Check.begin(y, old);
                Check.begin(y, text);
                y.event(0, 0);
                PledgeMonitor z = Check.begun(text);
                z.event(0, 0);
                check.same(text + " in place of " + old, Check.seen(y), Check.seen(z));
            }
        }
    }

    private static void itBegins() {
        check.sentence("It begins: day 0, no duties, bans, powers, debts or breaches; then the clauses with the trigger s run, by number.");
        PledgeMonitor x = Check.begun("s>!Aa0;s>!Aa9;s>~Bb9;s>?Cc9;s>$AB9;s>~Cd9", 1);
        x.event(2, 3);
        Check.days(x, 3);
        String fresh = Check.seen(Check.begun("Aa>!Aa1;Aa>~Aa1;Aa>?Aa1;Aa>!Ba1;Aa>~Bb1;x0>$AB1", 1));
        Check.begin(x, "Aa>!Aa1;Aa>~Aa1;Aa>?Aa1;Aa>!Ba1;Aa>~Bb1;x0>$AB1");
        check.same("all behind begin()", Check.seen(x), fresh);
        check.eq("today()", x.today(), 0);
        check.eq("counts", x.count(0) + x.count(1) + x.count(2), 0);
        PledgeMonitor y = Check.begun("s[AB0]>$CA1;s>$AB1;s[AB0]>$CB1;Aa>$CB1;=>$CB1");
        check.eq("a clause before another one", y.owed(2, 0), 0);
        check.eq("a clause behind it, and no other clause", y.owed(2, 1), 1);
    }

    private static void howManyClauses() {
        check.sentence("Answers how many clauses there are.");
        for (int many = 1; many <= 10; many++) {
            check.fine("s>$AB1;".repeat(many - 1) + "s>$AB1", many);
            check.fine("=>~Aa1;".repeat(many - 1) + "=>~Aa1", many);
        }
    }

    private static void beginThrows() {
        check.sentence("IllegalArgumentException: it is none; UnsupportedOperationException: it would be full.");
        for (String action : new String[] {"!Aa9", "~Aa9", "?Aa9"}) {
            check.fine("s>" + action + ";s>=0".repeat(7), 8);
            PledgeMonitor x = new PledgeMonitor();
            Check.type(x, "s>" + action + ";s>=0".repeat(8));
            check.call("begin() of nine " + action, x::begin, Check.UNSUPPORTED);
            check.eq("today()", x.today(), -1);
            x.erase();
            Check.type(x, "s>" + action + ";s[AB0]>=0" + ";s>=0".repeat(7));
            check.call("begin() of nine, one of which has a condition that does not hold", x::begin, 9);
        }
        for (String none : new String[] {"", "q", "s>!Aa", "s>=1", "s>=0"}) {
            PledgeMonitor x = new PledgeMonitor();
            Check.type(x, none);
            check.call("begin() of " + none, x::begin, Check.ARGUMENT);
        }
        check.eq("ten debts are far from full", Check.begun("s>=9;".repeat(9) + "s>$AB9").owed(0, 1), 90);
    }

    private static void theLatestFault() {
        check.sentence("The fault that the latest begin() found; NONE when it found none (also when it would be full), or there was no begin().");
        PledgeMonitor x = new PledgeMonitor();
        check.eq("fault() without a begin()", x.fault(), -1);
        Check.type(x, "s>=0");
        check.eq("fault() before begin()", x.fault(), -1);
        check.call("begin() of a round", x::begin, Check.ARGUMENT);
        check.eq("fault() of a round", x.fault(), 300);
        x.erase();
        x.stop();
        x.undo();
        check.eq("fault() behind other calls", x.fault(), 300);
        Check.type(x, "s>!Aa9" + ";s>=0".repeat(8));
        check.call("begin() of a full one", x::begin, Check.UNSUPPORTED);
        check.eq("fault() of a full one", x.fault(), -1);
        x.erase();
        check.call("begin() of no text", x::begin, Check.ARGUMENT);
        check.eq("fault() of no text", x.fault(), 0);
        Check.type(x, "s>!Aa9");
        check.call("begin() of an agreement", x::begin, 1);
        check.eq("fault() of an agreement", x.fault(), -1);
    }
}
