import java.util.ArrayDeque;
import java.util.ArrayList;
import java.util.Arrays;
import java.util.Comparator;
import java.util.Deque;
import java.util.List;
import java.util.TreeSet;
import java.util.regex.Matcher;
import java.util.regex.Pattern;

/** The document once more, written for plainness alone: the class is compared with it. */
final class Reference {
    private static final String PAIR = "(?:AB|AC|BA|BC|CA|CB)";
    private static final String CLAUSE = "(?:s|[ABC][a-e]|[xf][0-9]|=)(?:\\[" + PAIR + "[0-9]\\])?"
            + ">(?:[!~?][ABC][a-e][0-9]|\\$" + PAIR + "[0-9]|=[0-9])";
    private static final Pattern AGREEMENT = Pattern.compile(CLAUSE + "(?:;" + CLAUSE + "){0,9}");

    static final class Full extends RuntimeException {
        private static final long serialVersionUID = 1L;
    }

    record Term(int clause, int day) {
    }

    static final class Now {
        int day = 0;
        List<Term> duties = new ArrayList<>();
        List<Term> bans = new ArrayList<>();
        List<Term> powers = new ArrayList<>();
        int[][] debts = new int[3][3];
        int[] breaches = new int[10];

        Now copy() {
            Now other = new Now();
            other.day = day;
            other.duties = new ArrayList<>(duties);
            other.bans = new ArrayList<>(bans);
            other.powers = new ArrayList<>(powers);
            for (int i = 0; i < 3; i++) {
                other.debts[i] = debts[i].clone();
            }
            other.breaches = breaches.clone();
            return other;
        }
    }

    private String text = "";
    private final TreeSet<Integer> freeDays = new TreeSet<>();
    private int fault = -1;
    private String[] clauses = null;
    private Now now = null;
    private final Deque<Now> kept = new ArrayDeque<>();

    boolean type(long row) {
        StringBuilder more = new StringBuilder();
        for (int i = 0; i < 8; i++) {
            char c = (char) ((row >> (8 * i)) & 0xff);
            if (c == 0) {
                break;
            }
            more.append(c);
        }
        if (more.chars().anyMatch(c -> c < 33 || c > 126) || text.length() + more.length() > 120) {
            return false;
        }
        text += more;
        return true;
    }

    int erase() {
        int had = text.length();
        text = "";
        return had;
    }

    boolean free(int d) {
        if (d < 0 || d > 60 || now != null) {
            return false;
        }
        return freeDays.add(d) || !freeDays.remove(d);
    }

    int begin() {
        fault = faultOf(text);
        if (fault != -1) {
            throw new IllegalArgumentException();
        }
        String[] old = clauses;
        clauses = text.split(";");
        Now fresh = new Now();
        List<Integer> waiting = new ArrayList<>();
        addTriggered(waiting, "s");
        try {
            run(fresh, waiting);
        } catch (Full e) {
            clauses = old;
            throw new UnsupportedOperationException();
        }
        now = fresh;
        kept.clear();
        text = "";
        return clauses.length;
    }

    boolean stop() {
        boolean was = now != null;
        now = null;
        clauses = null;
        kept.clear();
        return was;
    }

    int fault() {
        return fault;
    }

    int event(int party, int kind) {
        needAgreement();
        if (party < 0 || party > 2 || kind < 0 || kind > 4) {
            throw new IllegalArgumentException();
        }
        Now next = now.copy();
        int made;
        try {
            made = happen(next, party, kind);
        } catch (Full e) {
            throw new UnsupportedOperationException();
        }
        move(next);
        return made;
    }

    int nextDay() {
        needAgreement();
        if (now.day == 60) {
            throw new IllegalStateException();
        }
        Now next = now.copy();
        int made;
        try {
            made = endDay(next).size();
        } catch (Full e) {
            throw new UnsupportedOperationException();
        }
        move(next);
        return made;
    }

    boolean undo() {
        if (kept.isEmpty()) {
            return false;
        }
        now = kept.removeLast();
        return true;
    }

    int today() {
        return now == null ? -1 : now.day;
    }

    int duty(int i) {
        if (now == null || i < 0 || i >= now.duties.size()) {
            return -1;
        }
        return now.duties.stream().mapToInt(t -> 100 * t.day() + t.clause()).sorted().toArray()[i];
    }

    int count(int what) {
        if (now == null || what < 0 || what > 2) {
            return 0;
        }
        return List.of(now.duties, now.bans, now.powers).get(what).size();
    }

    int breaches(int clause) {
        return now == null || clause < 0 || clause > 9 ? 0 : now.breaches[clause];
    }

    int may(int party, int kind) {
        if (now == null || party < 0 || party > 2 || kind < 0 || kind > 4) {
            return -1;
        }
        if (of(now.bans, party, kind).isEmpty()) {
            return 0;
        }
        return of(now.powers, party, kind).isEmpty() ? 2 : 1;
    }

    int owed(int p, int q) {
        return now == null || p < 0 || p > 2 || q < 0 || q > 2 ? 0 : now.debts[p][q];
    }

    int course(int party, int days) {
        needSearch(party, days);
        return courseFrom(now, party, days);
    }

    int threat(int party, int days) {
        needSearch(party, days);
        if (courseFrom(now, party, days) == -1) {
            return -1;
        }
        for (int i = 0; i < 15; i++) {
            Now next = now.copy();
            try {
                if (i / 5 == party || happen(next, i / 5, i % 5) != 0) {
                    continue;
                }
            } catch (Full e) {
                continue;
            }
            if (courseFrom(next, party, days) == -1) {
                return i;
            }
        }
        return -1;
    }

    private void needAgreement() {
        if (now == null) {
            throw new IllegalStateException();
        }
    }

    private void needSearch(int party, int days) {
        needAgreement();
        if (party < 0 || party > 2 || days < 1 || days > 2 || now.day > 58) {
            throw new IllegalArgumentException();
        }
    }

    private void move(Now next) {
        kept.addLast(now);
        if (kept.size() > 12) {
            kept.removeFirst();
        }
        now = next;
    }

    static int faultOf(String text) {
        for (int end = 1; end <= text.length(); end++) {
            Matcher matcher = AGREEMENT.matcher(text.substring(0, end));
            if (!matcher.matches() && !matcher.hitEnd()) {
                return end - 1;
            }
        }
        if (!AGREEMENT.matcher(text).matches()) {
            return text.length();
        }
        String[] all = text.split(";");
        for (int i = 0; i < all.length; i++) {
            if (!refers(all, all[i])) {
                return 200 + i;
            }
        }
        for (int i = 0; i < all.length; i++) {
            int at = i;
            for (int steps = 0; steps < 20 && at != -1; steps++) {
                String action = all[at].substring(all[at].indexOf('>') + 1);
                at = action.charAt(0) == '=' ? action.charAt(1) - '0' : -1;
                if (at == i) {
                    return 300 + i;
                }
            }
        }
        return -1;
    }

    private static boolean refers(String[] all, String clause) {
        String action = clause.substring(clause.indexOf('>') + 1);
        if (action.charAt(0) == '=' && action.charAt(1) - '0' >= all.length) {
            return false;
        }
        char trigger = clause.charAt(0);
        if (trigger != 'x' && trigger != 'f') {
            return true;
        }
        int number = clause.charAt(1) - '0';
        if (number >= all.length) {
            return false;
        }
        char wanted = all[number].charAt(all[number].indexOf('>') + 1);
        return trigger == 'x' ? "!~".indexOf(wanted) >= 0 : wanted == '!';
    }

    private String actionOf(int clause) {
        return clauses[clause].substring(clauses[clause].indexOf('>') + 1);
    }

    private int partyOf(int clause) {
        return actionOf(clause).charAt(1) - 'A';
    }

    private void addTriggered(List<Integer> waiting, String trigger) {
        for (int i = 0; i < clauses.length; i++) {
            if (clauses[i].split("[\\[>]")[0].equals(trigger)) {
                waiting.add(i);
            }
        }
    }

    private List<Term> of(List<Term> terms, int party, int kind) {
        String who = "" + (char) ('A' + party) + (char) ('a' + kind);
        List<Term> found = new ArrayList<>();
        for (Term term : terms) {
            if (actionOf(term.clause()).startsWith(who, 1)) {
                found.add(term);
            }
        }
        found.sort(Comparator.comparingInt(Term::day).thenComparingInt(Term::clause));
        return found;
    }

    private void run(Now at, List<Integer> waiting) {
        while (!waiting.isEmpty()) {
            int number = waiting.remove(0);
            String clause = clauses[number];
            int open = clause.indexOf('[');
            if (open >= 0 && at.debts[clause.charAt(open + 1) - 'A'][clause.charAt(open + 2) - 'A']
                    <= clause.charAt(open + 3) - '0') {
                continue;
            }
            String action = actionOf(number);
            int digit = action.charAt(action.length() - 1) - '0';
            switch (action.charAt(0)) {
                case '!' -> grow(at.duties, new Term(number, businessDay(at.day, digit)));
                case '~' -> grow(at.bans, new Term(number, at.day + digit));
                case '?' -> grow(at.powers, new Term(number, at.day + digit));
                case '=' -> waiting.add(digit);
                default -> {
                    int[] row = at.debts[action.charAt(1) - 'A'];
                    row[action.charAt(2) - 'A'] += digit;
                    if (row[action.charAt(2) - 'A'] > 999) {
                        throw new Full();
                    }
                }
            }
        }
    }

    private static void grow(List<Term> terms, Term term) {
        terms.add(term);
        if (terms.size() > 8) {
            throw new Full();
        }
    }

    private int businessDay(int from, int many) {
        int[] business = java.util.stream.IntStream.range(from + 1, 200)
                .filter(d -> !freeDays.contains(d)).toArray();
        return many == 0 ? from : business[many - 1];
    }

    private int happen(Now at, int party, int kind) {
        List<Integer> breached = new ArrayList<>();
        List<Term> bans = of(at.bans, party, kind);
        List<Term> powers = of(at.powers, party, kind);
        if (!bans.isEmpty() && !powers.isEmpty()) {
            at.powers.remove(powers.get(0));
        } else {
            bans.forEach(ban -> breached.add(ban.clause()));
        }
        breached.sort(null);
        List<Term> duties = of(at.duties, party, kind);
        if (!duties.isEmpty()) {
            at.duties.remove(duties.get(0));
        }
        List<Integer> waiting = new ArrayList<>();
        addTriggered(waiting, "" + (char) ('A' + party) + (char) ('a' + kind));
        for (int clause : breached) {
            at.breaches[clause]++;
            addTriggered(waiting, "x" + clause);
        }
        if (!duties.isEmpty()) {
            addTriggered(waiting, "f" + duties.get(0).clause());
        }
        run(at, waiting);
        return breached.size();
    }

    private List<Integer> endDay(Now at) {
        List<Integer> breached = new ArrayList<>();
        for (Term duty : at.duties) {
            if (duty.day() <= at.day) {
                breached.add(duty.clause());
            }
        }
        breached.sort(null);
        at.duties.removeIf(duty -> duty.day() <= at.day);
        List<Integer> waiting = new ArrayList<>();
        for (int clause : breached) {
            at.breaches[clause]++;
            addTriggered(waiting, "x" + clause);
        }
        run(at, waiting);
        at.day++;
        at.bans.removeIf(ban -> ban.day() < at.day);
        at.powers.removeIf(power -> power.day() < at.day);
        return breached;
    }

    private int courseFrom(Now from, int party, int days) {
        List<int[]> all = new ArrayList<>();
        all.add(new int[0]);
        for (int i = 0; i < 5; i++) {
            all.add(new int[] {i});
        }
        for (int i = 0; i < 25; i++) {
            all.add(new int[] {i / 5, i % 5});
        }
        for (int[] kinds : all) {
            if (isCourse(from, party, days, kinds)) {
                return kinds.length == 0 ? 0 : kinds.length == 1 ? 10 + kinds[0] : 100 + 10 * kinds[0] + kinds[1];
            }
        }
        return -1;
    }

    private boolean isCourse(Now from, int party, int days, int[] kinds) {
        Now at = from.copy();
        try {
            if (Arrays.stream(kinds).anyMatch(kind -> happen(at, party, kind) != 0)) {
                return false;
            }
            if (endDay(at).stream().anyMatch(clause -> partyOf(clause) == party)) {
                return false;
            }
        } catch (Full e) {
            return false;
        }
        return days == 1 || courseFrom(at, party, days - 1) != -1;
    }
}
