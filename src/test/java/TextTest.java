/** Promises 1 to 4: a new object, type, erase, free. */
final class TextTest {
    private static final Check check = new Check();

    public static void main(String[] args) {
        check.each(
                TextTest::aNewObject,
                TextTest::typeReadsTheLowestBitsFirst,
                TextTest::typeEndsAtZero,
                TextTest::typeRefusesOtherCharacters,
                TextTest::typeRefusesMoreThanThereIsRoomFor,
                TextTest::eraseTellsHowManyThereWere,
                TextTest::freeTurnsADay,
                TextTest::freeIsRefusedWhileAnAgreementRuns);
        check.end();
    }

    private static void aNewObject() {
        PledgeMonitor x = new PledgeMonitor();
        check.eq("NONE", PledgeMonitor.NONE, -1);
        check.eq("new: today()", x.today(), -1);
        check.eq("new: fault()", x.fault(), -1);
        check.eq("new: erase()", x.erase(), 0);
        check.no("new: undo()", x.undo());
        check.no("new: stop()", x.stop());
        check.call("new: begin()", x::begin, Check.ARGUMENT);
        for (int d = 0; d <= 60; d++) {
            check.yes("new: free(" + d + ")", x.free(d));
        }
    }

    private static void typeReadsTheLowestBitsFirst() {
        PledgeMonitor x = new PledgeMonitor();
        check.yes("type s>!Aa2;s", x.type(0x73_3b_32_61_41_21_3e_73L));
        check.yes("type >~Bb1", x.type(0x31_62_42_7e_3eL));
        check.eq("begin()", x.begin(), 2);
        check.eq("duty(0)", x.duty(0), 200);
        check.eq("may(1, 1)", x.may(1, 1), 2);
    }

    private static void typeEndsAtZero() {
        PledgeMonitor x = new PledgeMonitor();
        check.yes("type(0)", x.type(0));
        check.eq("erase() after type(0)", x.erase(), 0);
        check.yes("type of A, 0 and bits that can't be typed", x.type(0xff_01_20_7f_42_00_41L));
        check.eq("erase() after that", x.erase(), 1);
        check.yes("type of 0 and A", x.type(0x4100L));
        check.eq("erase() after that too", x.erase(), 0);
    }

    private static void typeRefusesOtherCharacters() {
        PledgeMonitor x = new PledgeMonitor();
        x.type('A');
        for (int c : new int[] {1, 10, 32, 127, 128, 200, 255}) {
            check.no("type of " + c, x.type(c));
            check.no("type of s and " + c, x.type('s' | (long) c << 8));
            check.no("type of seven s and " + c, x.type(0x73737373737373L | (long) c << 56));
        }
        check.no("type(-1)", x.type(-1));
        check.no("type(Long.MIN_VALUE | s ...)", x.type(0x8073737373737373L));
        check.eq("erase() after refusals", x.erase(), 1);
        check.yes("type of 33", x.type(33));
        check.yes("type of 126", x.type(126));
        check.yes("type of eight 126", x.type(0x7e7e7e7e7e7e7e7eL));
        check.eq("erase() after the edges", x.erase(), 10);
    }

    private static void typeRefusesMoreThanThereIsRoomFor() {
        PledgeMonitor x = new PledgeMonitor();
        check.yes("type of 117", Check.type(x, "s".repeat(117)));
        check.no("type of four more", x.type(0x73737373L));
        check.yes("type of three more", x.type(0x737373L));
        check.yes("type of none more", x.type(0));
        check.no("type of one more", x.type(0x73));
        check.eq("erase() of a full text", x.erase(), 120);
        check.yes("type after erase", x.type(0x73));
    }

    private static void eraseTellsHowManyThereWere() {
        PledgeMonitor x = Check.begun("s>!Aa5");
        check.eq("erase() after begin()", x.erase(), 0);
        Check.type(x, "s>!Aa2;q");
        check.eq("erase() of eight", x.erase(), 8);
        check.eq("erase() again", x.erase(), 0);
        check.eq("the agreement stays", x.duty(0), 500);
        Check.type(x, "s>!Aa");
        check.call("begin() of a part", x::begin, Check.ARGUMENT);
        check.eq("erase() after begin() threw", x.erase(), 5);
    }

    private static void freeTurnsADay() {
        PledgeMonitor x = new PledgeMonitor();
        check.yes("free(0)", x.free(0));
        check.yes("free(60)", x.free(60));
        check.no("free(0) again", x.free(0));
        check.yes("free(0) a third time", x.free(0));
        check.no("free(60) again", x.free(60));
        for (int d : new int[] {-1, 61, Integer.MIN_VALUE, Integer.MAX_VALUE}) {
            check.no("free(" + d + ")", x.free(d));
            check.no("free(" + d + ") again", x.free(d));
        }
    }

    private static void freeIsRefusedWhileAnAgreementRuns() {
        PledgeMonitor x = Check.begun("s>!Aa1", 1);
        check.eq("duty over a free day", x.duty(0), 200);
        check.no("free(1) while it runs", x.free(1));
        check.no("free(2) while it runs", x.free(2));
        Check.begin(x, "s>!Aa1");
        check.eq("free days stay behind begin()", x.duty(0), 200);
        x.stop();
        check.no("free(1) behind stop()", x.free(1));
        Check.begin(x, "s>!Aa1");
        check.eq("duty over no free day", x.duty(0), 100);
    }
}
