import java.util.Random;
import java.util.function.LongSupplier;

/** All promises: runs of 512 calls by chance (the same ones each time), compared with Reference. */
final class ReferenceTest {
    private static final int RUNS = 2000;
    private static final int CALLS = 512;
    private static final int ASKED = 6;

    private final Check check = new Check();
    private final Random random;
    private final PledgeMonitor monitor = new PledgeMonitor();
    private final Reference reference = new Reference();
    private final StringBuilder story = new StringBuilder();
    private int calls = 0;

    private ReferenceTest(long seed) {
        random = new Random(seed);
    }

    public static void main(String[] args) {
        Check all = new Check();
        for (int seed = 0; seed < RUNS; seed++) {
            all.yes("run by chance " + seed, new ReferenceTest(seed).isAlike());
        }
        all.end();
    }

    private boolean isAlike() {
        for (int i = 0; i < 4; i++) {
            free(random.nextInt(64) - 2);
        }
        while (calls < CALLS) {
            boolean alike = step();
            for (int i = 0; i < ASKED && alike; i++) {
                alike = ask();
            }
            if (!alike) {
                System.out.println(story);
                return false;
            }
        }
        return true;
    }

    private boolean step() {
        int what = random.nextInt(40);
        if (reference.today() == -1 || what == 0) {
            return begin();
        }
        if (what == 1) {
            return same("stop()", () -> monitor.stop() ? 1 : 0, () -> reference.stop() ? 1 : 0);
        }
        if (what < 5) {
            return same("undo()", () -> monitor.undo() ? 1 : 0, () -> reference.undo() ? 1 : 0);
        }
        if (what == 5) {
            return free(random.nextInt(64) - 2);
        }
        if (what < 14) {
            int many = what == 6 && random.nextInt(4) == 0 ? 25 : 1;
            for (int i = 0; i < many; i++) {
                if (!same("nextDay()", monitor::nextDay, reference::nextDay)) {
                    return false;
                }
            }
            return true;
        }
        int party = random.nextInt(30) == 0 ? 3 : random.nextInt(2);
        int kind = random.nextInt(30) == 0 ? 5 : random.nextInt(3);
        return same("event(" + party + ", " + kind + ")",
                () -> monitor.event(party, kind), () -> reference.event(party, kind));
    }

    private boolean free(int day) {
        return same("free(" + day + ")", () -> monitor.free(day) ? 1 : 0, () -> reference.free(day) ? 1 : 0);
    }

    private boolean begin() {
        if (random.nextInt(4) > 0 && !same("erase()", monitor::erase, reference::erase)) {
            return false;
        }
        String text = random.nextInt(6) == 0 ? spoilt(agreement()) : agreement();
        for (int from = 0; from < text.length(); from += 8) {
            long row = Check.row(text, from);
            if (!same("type " + text.substring(from, Math.min(text.length(), from + 8)),
                    () -> monitor.type(row) ? 1 : 0, () -> reference.type(row) ? 1 : 0)) {
                return false;
            }
        }
        return same("begin()", monitor::begin, reference::begin);
    }

    private boolean ask() {
        int one = random.nextInt(12) - 1;
        int party = random.nextInt(20) == 0 ? random.nextInt(7) - 2 : random.nextInt(3);
        int other = random.nextInt(20) == 0 ? random.nextInt(7) - 2 : random.nextInt(3);
        int kind = random.nextInt(20) == 0 ? random.nextInt(9) - 2 : random.nextInt(3);
        int days = random.nextInt(20) == 0 ? random.nextInt(5) - 1 : 1 + random.nextInt(2);
        switch (random.nextInt(10)) {
            case 0:
                return same("today()", monitor::today, reference::today);
            case 1:
                return same("fault()", monitor::fault, reference::fault);
            case 2:
            case 3:
                return same("duty(" + one + ")", () -> monitor.duty(one), () -> reference.duty(one));
            case 4:
                return same("count(" + other + ")", () -> monitor.count(other), () -> reference.count(other));
            case 5:
                return same("breaches(" + one + ")", () -> monitor.breaches(one), () -> reference.breaches(one));
            case 6:
                return same("may(" + party + ", " + kind + ")",
                        () -> monitor.may(party, kind), () -> reference.may(party, kind));
            case 7:
                return same("owed(" + party + ", " + other + ")",
                        () -> monitor.owed(party, other), () -> reference.owed(party, other));
            case 8:
                return same("course(" + party + ", " + days + ")",
                        () -> monitor.course(party, days), () -> reference.course(party, days));
            default:
                return same("threat(" + party + ", " + days + ")",
                        () -> monitor.threat(party, days), () -> reference.threat(party, days));
        }
    }

    /** Whether both answer alike; behind the calls that an object is used for, nothing is asked. */
    private boolean same(String call, LongSupplier got, LongSupplier want) {
        if (calls >= CALLS) {
            return true;
        }
        calls++;
        long due = Check.answer(want);
        long answered = Check.answer(got);
        story.append(call).append(" -> ").append(Check.name(due)).append('\n');
        check.eq(call, answered, due);
        return answered == due;
    }

    /** Few parties and kinds, so that clauses meet; most of these texts are agreements. */
    private String agreement() {
        int many = random.nextInt(4) == 0 ? 1 + random.nextInt(10) : 6 + random.nextInt(5);
        char[] actions = new char[many];
        for (int i = 0; i < many; i++) {
            actions[i] = "!!!!~~~??$$=".charAt(random.nextInt(i == many - 1 ? 11 : 12));
        }
        StringBuilder text = new StringBuilder();
        for (int i = 0; i < many; i++) {
            text.append(i == 0 ? "" : ";").append(trigger(actions));
            if (random.nextInt(5) == 0) {
                text.append('[').append(pair()).append(random.nextInt(10) == 0 ? 9 : random.nextInt(3)).append(']');
            }
            text.append('>').append(actions[i]);
            if (actions[i] == '$') {
                text.append(pair()).append(random.nextInt(10));
            } else if (actions[i] == '=') {
                text.append(random.nextInt(12) == 0 ? random.nextInt(10) : Math.min(many - 1, i + 1 + random.nextInt(3)));
            } else {
                text.append(deed()).append(random.nextInt(6) == 0 ? random.nextInt(10) : random.nextInt(3));
            }
        }
        return text.toString();
    }

    private String trigger(char[] actions) {
        int number = random.nextInt(actions.length);
        switch (random.nextInt(8)) {
            case 0:
            case 1:
                return "s";
            case 2:
                return "=";
            case 3:
            case 4:
                if (actions[number] == '!') {
                    return (random.nextBoolean() ? "f" : "x") + number;
                }
                return actions[number] == '~' ? "x" + number : deed();
            default:
                return deed();
        }
    }

    private String deed() {
        return "" + (char) ('A' + random.nextInt(random.nextInt(6) == 0 ? 3 : 2)) + (char) ('a' + random.nextInt(3));
    }

    private String pair() {
        return new String[] {"AB", "BA", "AC", "CB"}[random.nextInt(4)];
    }

    private String spoilt(String text) {
        int at = random.nextInt(text.length());
        char other = "sABCDabcdefx=>[]!~?$0123459;".charAt(random.nextInt(28));
        switch (random.nextInt(3)) {
            case 0:
                return text.substring(0, at);
            case 1:
                return text.substring(0, at) + other + text.substring(at + 1);
            default:
                return text.substring(0, at) + other + text.substring(at);
        }
    }
}
