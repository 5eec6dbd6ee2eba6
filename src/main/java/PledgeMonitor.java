/** Watches over an agreement of clauses: who must, must not or may do what, and who owes whom. */
public final class PledgeMonitor {
    public static final int NONE = -1;

    private static final int FULL = -2;

    private static final int PARTIES = 3;
    private static final int KINDS = 5;
    private static final int LAST_DAY = 60;
    private static final int FARTHEST_DAY = 69;
    private static final int LAST_SEARCH_DAY = 58;
    private static final int SEARCH_DAYS_MOST = 2;

    private static final int TEXT_MOST = 120;
    private static final int ROW_CHARACTERS = 8;
    private static final int LEAST_CHARACTER = 33;
    private static final int GREATEST_CHARACTER = 126;

    private static final int CLAUSES_MOST = 10;
    private static final int TERMS_MOST = 8;
    private static final int DEBT_MOST = 999;
    private static final int KEPT_MOST = 12;
    private static final int WRONG_REFERENCE = 200;
    private static final int ROUND = 300;

    // Eight breaches trigger at most ten clauses each, and each of these begins a chain of at most ten by =.
    private static final int WAITING_MOST = 800;

    private static final int ON_START = 's';
    private static final int ON_EVENT = 'e';
    private static final int ON_BREACH = 'x';
    private static final int ON_FULFILMENT = 'f';
    private static final int ON_CALL = '=';

    private static final int DUTY = '!';
    private static final int BAN = '~';
    private static final int POWER = '?';
    private static final int DEBT = '$';
    private static final int CALL = '=';

    private final Text text = new Text();
    private int foundFault = NONE;

    private boolean running = false;
    private Agreement agreement = new Agreement();
    private Agreement draft = new Agreement();
    private final State state = new State();
    private final State trial = new State();
    private final History history = new History();

    private final Search search = new Search();
    private final Runner runner = search.runner;

    public PledgeMonitor() {
    }

    public boolean type(long row) {
        return text.put(row);
    }

    public int erase() {
        int had = text.length;
        text.length = 0;
        return had;
    }

    public boolean free(int d) {
        if (running || d < 0 || d > LAST_DAY) {
            return false;
        }
        runner.freeDays[d] = !runner.freeDays[d];
        return runner.freeDays[d];
    }

    public int begin() throws IllegalArgumentException, UnsupportedOperationException {
        foundFault = text.readInto(draft);
        if (foundFault != NONE) {
            throw new IllegalArgumentException();
        }
        trial.clear();
        if (!runner.start(draft, trial)) {
            throw new UnsupportedOperationException();
        }
        Agreement ended = agreement;
        agreement = draft;
        draft = ended;
        state.copyFrom(trial);
        history.forget();
        text.length = 0;
        running = true;
        return agreement.size;
    }

    public boolean stop() {
        boolean was = running;
        running = false;
        history.forget();
        return was;
    }

    public int fault() {
        return foundFault;
    }

    public int event(int party, int kind)
            throws IllegalStateException, IllegalArgumentException, UnsupportedOperationException {
        if (!running) {
            throw new IllegalStateException();
        }
        if (!isParty(party) || !isKind(kind)) {
            throw new IllegalArgumentException();
        }
        trial.copyFrom(state);
        int made = runner.happen(agreement, trial, party, kind);
        if (made == FULL) {
            throw new UnsupportedOperationException();
        }
        moveToTrial();
        return made;
    }

    public int nextDay() throws IllegalStateException, UnsupportedOperationException {
        if (!running || state.day >= LAST_DAY) {
            throw new IllegalStateException();
        }
        trial.copyFrom(state);
        int made = runner.endDay(agreement, trial);
        if (made == FULL) {
            throw new UnsupportedOperationException();
        }
        moveToTrial();
        return made;
    }

    public boolean undo() {
        return history.giveBack(state);
    }

    public int today() {
        return running ? state.day : NONE;
    }

    public int duty(int i) {
        if (!running || i < 0 || i >= state.duties.size) {
            return NONE;
        }
        return state.duties.rows[i];
    }

    public int count(int what) {
        if (!running) {
            return 0;
        }
        switch (what) {
            case 0:
                return state.duties.size;
            case 1:
                return state.bans.size;
            case 2:
                return state.powers.size;
            default:
                return 0;
        }
    }

    public int breaches(int clause) {
        if (!running || clause < 0 || clause >= agreement.size) {
            return 0;
        }
        return state.breachCounts[clause];
    }

    public int may(int party, int kind) {
        if (!running || !isParty(party) || !isKind(kind)) {
            return NONE;
        }
        if (agreement.find(state.bans, party, kind) == NONE) {
            return 0;
        }
        return agreement.find(state.powers, party, kind) == NONE ? 2 : 1;
    }

    public int owed(int p, int q) {
        if (!running || !isParty(p) || !isParty(q)) {
            return 0;
        }
        return state.debtOf(p, q);
    }

    public int course(int party, int days) throws IllegalStateException, IllegalArgumentException {
        if (!running) {
            throw new IllegalStateException();
        }
        if (!canSearch(party, days)) {
            throw new IllegalArgumentException();
        }
        return search.firstCourse(agreement, state, party, days);
    }

    public int threat(int party, int days) throws IllegalStateException, IllegalArgumentException {
        if (!running) {
            throw new IllegalStateException();
        }
        if (!canSearch(party, days)) {
            throw new IllegalArgumentException();
        }
        if (search.firstCourse(agreement, state, party, days) == NONE) {
            return NONE;
        }
        for (int other = 0; other < PARTIES; other++) {
            for (int kind = 0; kind < KINDS; kind++) {
                if (other != party && search.changes(agreement, state, trial, other, kind)
                        && search.firstCourse(agreement, trial, party, days) == NONE) {
                    return KINDS * other + kind;
                }
            }
        }
        return NONE;
    }

    private static boolean isParty(int party) {
        return party >= 0 && party < PARTIES;
    }

    private static boolean isKind(int kind) {
        return kind >= 0 && kind < KINDS;
    }

    private boolean canSearch(int party, int days) {
        return isParty(party) && days >= 1 && days <= SEARCH_DAYS_MOST && state.day <= LAST_SEARCH_DAY;
    }

    private void moveToTrial() {
        history.keep(state);
        state.copyFrom(trial);
    }

    private static final class Clause {
        int trigger = ON_START;
        int triggerParty = NONE;
        int triggerKind = NONE;
        int triggerNumber = NONE;
        boolean conditional = false;
        int debtor = 0;
        int creditor = 0;
        int limit = 0;
        int action = DEBT;
        int party = NONE;
        int kind = NONE;
        int otherParty = NONE;
        int digit = 0;

        boolean isOnEvent(int eventParty, int eventKind) {
            return trigger == ON_EVENT && triggerParty == eventParty && triggerKind == eventKind;
        }

        boolean isOn(int wantedTrigger, int number) {
            return trigger == wantedTrigger && triggerNumber == number;
        }

        boolean isFor(int eventParty, int eventKind) {
            return party == eventParty && kind == eventKind;
        }

        boolean holds(State state) {
            return !conditional || state.debtOf(debtor, creditor) > limit;
        }
    }

    private static final class Agreement {
        final Clause[] clauses = new Clause[CLAUSES_MOST];
        int size = 0;

        Agreement() {
            for (int i = 0; i < CLAUSES_MOST; i++) {
                clauses[i] = new Clause();
            }
        }

        /** The place of the first of the terms that are of a party and kind; NONE when there is none. */
        int find(Terms terms, int party, int kind) {
            for (int i = 0; i < terms.size; i++) {
                if (clauses[terms.clauseAt(i)].isFor(party, kind)) {
                    return i;
                }
            }
            return NONE;
        }

        boolean isTouchedBy(State state, int party, int kind) {
            for (int i = 0; i < size; i++) {
                if (clauses[i].isOnEvent(party, kind)) {
                    return true;
                }
            }
            return find(state.bans, party, kind) != NONE || find(state.duties, party, kind) != NONE;
        }

        boolean hasDutyDue(State state, int party) {
            for (int i = 0; i < state.duties.size; i++) {
                if (state.duties.dayAt(i) <= state.day && clauses[state.duties.clauseAt(i)].party == party) {
                    return true;
                }
            }
            return false;
        }

        int faultOfReferences() {
            for (int i = 0; i < size; i++) {
                if (!refersRightly(clauses[i])) {
                    return WRONG_REFERENCE + i;
                }
            }
            for (int i = 0; i < size; i++) {
                if (liesOnRound(i)) {
                    return ROUND + i;
                }
            }
            return NONE;
        }

        private boolean refersRightly(Clause clause) {
            if (clause.action == CALL && clause.digit >= size) {
                return false;
            }
            if (clause.trigger != ON_BREACH && clause.trigger != ON_FULFILMENT) {
                return true;
            }
            if (clause.triggerNumber >= size) {
                return false;
            }
            int wanted = clauses[clause.triggerNumber].action;
            return wanted == DUTY || wanted == BAN && clause.trigger == ON_BREACH;
        }

        private boolean liesOnRound(int clause) {
            int reached = clause;
            for (int steps = 0; steps < size; steps++) {
                if (clauses[reached].action != CALL) {
                    return false;
                }
                reached = clauses[reached].digit;
                if (reached == clause) {
                    return true;
                }
            }
            return false;
        }
    }

    /** The text as it was typed; it is read up to the first character that can't stand where it does. */
    private static final class Text {
        private final char[] characters = new char[TEXT_MOST];
        int length = 0;
        private int place = 0;
        private int first = NONE;
        private int second = NONE;
        private int digit = NONE;

        /** Whether the characters of a row could be put behind the others. */
        boolean put(long row) {
            int more = 0;
            while (more < ROW_CHARACTERS && characterOf(row, more) != 0) {
                int character = characterOf(row, more);
                if (character < LEAST_CHARACTER || character > GREATEST_CHARACTER) {
                    return false;
                }
                more++;
            }
            if (length + more > TEXT_MOST) {
                return false;
            }
            for (int i = 0; i < more; i++) {
                characters[length + i] = (char) characterOf(row, i);
            }
            length += more;
            return true;
        }

        private static int characterOf(long row, int i) {
            return (int) (row >>> (8 * i)) & 255;
        }

        /** The fault of the text; NONE when it is an agreement, which stands in the given one then. */
        int readInto(Agreement agreement) {
            place = 0;
            for (int i = 0; i < CLAUSES_MOST; i++) {
                if (!readClause(agreement.clauses[i])) {
                    return place;
                }
                if (place == length) {
                    agreement.size = i + 1;
                    return agreement.faultOfReferences();
                }
                if (i == CLAUSES_MOST - 1 || !takes(';')) {
                    return place;
                }
            }
            return place;
        }

        private boolean readClause(Clause clause) {
            return readTrigger(clause) && readCondition(clause) && takes('>') && readAction(clause);
        }

        private boolean readTrigger(Clause clause) {
            if (takes('s')) {
                clause.trigger = ON_START;
                return true;
            }
            if (takes('=')) {
                clause.trigger = ON_CALL;
                return true;
            }
            if (takes('x')) {
                clause.trigger = ON_BREACH;
                return readTriggerNumber(clause);
            }
            if (takes('f')) {
                clause.trigger = ON_FULFILMENT;
                return readTriggerNumber(clause);
            }
            clause.trigger = ON_EVENT;
            clause.triggerParty = takeParty();
            if (clause.triggerParty == NONE) {
                return false;
            }
            clause.triggerKind = takeKind();
            return clause.triggerKind != NONE;
        }

        private boolean readTriggerNumber(Clause clause) {
            clause.triggerNumber = takeDigit();
            return clause.triggerNumber != NONE;
        }

        private boolean readCondition(Clause clause) {
            clause.conditional = takes('[');
            if (!clause.conditional) {
                return true;
            }
            if (!readTwoParties() || !readDigit()) {
                return false;
            }
            clause.debtor = first;
            clause.creditor = second;
            clause.limit = digit;
            return takes(']');
        }

        private boolean readAction(Clause clause) {
            clause.party = NONE;
            clause.kind = NONE;
            clause.otherParty = NONE;
            if (takes('=')) {
                clause.action = CALL;
            } else if (takes('$')) {
                clause.action = DEBT;
                if (!readTwoParties()) {
                    return false;
                }
                clause.party = first;
                clause.otherParty = second;
            } else {
                if (!readTermSign(clause) || !readPartyAndKind()) {
                    return false;
                }
                clause.party = first;
                clause.kind = second;
            }
            if (!readDigit()) {
                return false;
            }
            clause.digit = digit;
            return true;
        }

        private boolean readTermSign(Clause clause) {
            if (takes('!')) {
                clause.action = DUTY;
                return true;
            }
            if (takes('~')) {
                clause.action = BAN;
                return true;
            }
            clause.action = POWER;
            return takes('?');
        }

        private boolean readTwoParties() {
            first = takeParty();
            if (first == NONE || isNext((char) ('A' + first))) {
                return false;
            }
            second = takeParty();
            return second != NONE;
        }

        private boolean readPartyAndKind() {
            first = takeParty();
            if (first == NONE) {
                return false;
            }
            second = takeKind();
            return second != NONE;
        }

        private boolean readDigit() {
            digit = takeDigit();
            return digit != NONE;
        }

        private boolean isNext(char wanted) {
            return place < length && characters[place] == wanted;
        }

        private boolean takes(char wanted) {
            if (!isNext(wanted)) {
                return false;
            }
            place++;
            return true;
        }

        private int takeParty() {
            return takeFrom('A', PARTIES);
        }

        private int takeKind() {
            return takeFrom('a', KINDS);
        }

        private int takeDigit() {
            return takeFrom('0', 10);
        }

        private int takeFrom(char least, int many) {
            if (place >= length || characters[place] < least || characters[place] >= least + many) {
                return NONE;
            }
            int taken = characters[place] - least;
            place++;
            return taken;
        }
    }

    /** Duties, bans or powers, each one 100 times its day and its clause, the least first. */
    private static final class Terms {
        final int[] rows = new int[TERMS_MOST];
        int size = 0;

        int clauseAt(int i) {
            return rows[i] % 100;
        }

        int dayAt(int i) {
            return rows[i] / 100;
        }

        boolean add(int clause, int day) {
            if (size >= TERMS_MOST) {
                return false;
            }
            int row = 100 * day + clause;
            int i = size;
            while (i > 0 && rows[i - 1] > row) {
                rows[i] = rows[i - 1];
                i--;
            }
            rows[i] = row;
            size++;
            return true;
        }

        void remove(int from, int many) {
            for (int i = from; i + many < size; i++) {
                rows[i] = rows[i + many];
            }
            size -= many;
        }

        void dropBefore(int day) {
            int passed = 0;
            while (passed < size && dayAt(passed) < day) {
                passed++;
            }
            remove(0, passed);
        }

        /** How many of a clause there are that last until a day, or not so long. */
        int countUntil(int clause, int day) {
            int found = 0;
            for (int i = 0; i < size; i++) {
                if (clauseAt(i) == clause && dayAt(i) <= day) {
                    found++;
                }
            }
            return found;
        }

        void copyFrom(Terms other) {
            System.arraycopy(other.rows, 0, rows, 0, other.size);
            size = other.size;
        }
    }

    private static final class State {
        int day = 0;
        final Terms duties = new Terms();
        final Terms bans = new Terms();
        final Terms powers = new Terms();
        final int[] debts = new int[PARTIES * PARTIES];
        final int[] breachCounts = new int[CLAUSES_MOST];

        int debtOf(int debtor, int creditor) {
            return debts[PARTIES * debtor + creditor];
        }

        boolean addDebt(int debtor, int creditor, int amount) {
            int place = PARTIES * debtor + creditor;
            if (debts[place] + amount > DEBT_MOST) {
                return false;
            }
            debts[place] += amount;
            return true;
        }

        void clear() {
            day = 0;
            duties.size = 0;
            bans.size = 0;
            powers.size = 0;
            for (int i = 0; i < debts.length; i++) {
                debts[i] = 0;
            }
            for (int i = 0; i < breachCounts.length; i++) {
                breachCounts[i] = 0;
            }
        }

        void copyFrom(State other) {
            day = other.day;
            duties.copyFrom(other.duties);
            bans.copyFrom(other.bans);
            powers.copyFrom(other.powers);
            System.arraycopy(other.debts, 0, debts, 0, debts.length);
            System.arraycopy(other.breachCounts, 0, breachCounts, 0, breachCounts.length);
        }
    }

    /** The latest states that are kept, in a ring, so that the oldest one makes room. */
    private static final class History {
        private final State[] kept = new State[KEPT_MOST];
        private int size = 0;
        private int next = 0;

        History() {
            for (int i = 0; i < KEPT_MOST; i++) {
                kept[i] = new State();
            }
        }

        void keep(State state) {
            kept[next].copyFrom(state);
            next = (next + 1) % KEPT_MOST;
            size = Math.min(size + 1, KEPT_MOST);
        }

        boolean giveBack(State into) {
            if (size == 0) {
                return false;
            }
            next = (next + KEPT_MOST - 1) % KEPT_MOST;
            size--;
            into.copyFrom(kept[next]);
            return true;
        }

        void forget() {
            size = 0;
        }
    }

    /** Does to a state what an agreement says; a state in which it was full is of no use any more. */
    private static final class Runner {
        final boolean[] freeDays = new boolean[LAST_DAY + 1];
        private final int[] waiting = new int[WAITING_MOST];
        private int waitingSize = 0;

        /** Whether nothing was full. */
        boolean start(Agreement agreement, State state) {
            waitingSize = 0;
            for (int i = 0; i < agreement.size; i++) {
                if (agreement.clauses[i].trigger == ON_START) {
                    await(i);
                }
            }
            return runWaiting(agreement, state);
        }

        /** How many breaches an event makes, or FULL. */
        int happen(Agreement agreement, State state, int party, int kind) {
            waitingSize = 0;
            for (int i = 0; i < agreement.size; i++) {
                if (agreement.clauses[i].isOnEvent(party, kind)) {
                    await(i);
                }
            }
            int made = 0;
            if (agreement.find(state.bans, party, kind) != NONE) {
                int power = agreement.find(state.powers, party, kind);
                if (power == NONE) {
                    made = breachBans(agreement, state, party, kind);
                } else {
                    state.powers.remove(power, 1);
                }
            }
            fulfilDuty(agreement, state, party, kind);
            return runWaiting(agreement, state) ? made : FULL;
        }

        /** How many breaches the end of the day makes, or FULL. */
        int endDay(Agreement agreement, State state) {
            waitingSize = 0;
            int made = 0;
            for (int i = 0; i < agreement.size; i++) {
                int times = state.duties.countUntil(i, state.day);
                state.breachCounts[i] += times;
                awaitAllOn(agreement, ON_BREACH, i, times);
                made += times;
            }
            state.duties.dropBefore(state.day + 1);
            if (!runWaiting(agreement, state)) {
                return FULL;
            }
            state.day++;
            state.bans.dropBefore(state.day);
            state.powers.dropBefore(state.day);
            return made;
        }

        private int breachBans(Agreement agreement, State state, int party, int kind) {
            int made = 0;
            for (int i = 0; i < agreement.size; i++) {
                if (agreement.clauses[i].isFor(party, kind)) {
                    int times = state.bans.countUntil(i, FARTHEST_DAY);
                    state.breachCounts[i] += times;
                    awaitAllOn(agreement, ON_BREACH, i, times);
                    made += times;
                }
            }
            return made;
        }

        private void fulfilDuty(Agreement agreement, State state, int party, int kind) {
            int fulfilled = agreement.find(state.duties, party, kind);
            if (fulfilled != NONE) {
                awaitAllOn(agreement, ON_FULFILMENT, state.duties.clauseAt(fulfilled), 1);
                state.duties.remove(fulfilled, 1);
            }
        }

        private void awaitAllOn(Agreement agreement, int trigger, int clause, int times) {
            for (int time = 0; time < times; time++) {
                for (int i = 0; i < agreement.size; i++) {
                    if (agreement.clauses[i].isOn(trigger, clause)) {
                        await(i);
                    }
                }
            }
        }

        private void await(int clause) {
            if (waitingSize < WAITING_MOST) {
                waiting[waitingSize] = clause;
                waitingSize++;
            }
        }

        private boolean runWaiting(Agreement agreement, State state) {
            for (int i = 0; i < waitingSize && i < WAITING_MOST; i++) {
                Clause clause = agreement.clauses[waiting[i]];
                if (clause.holds(state) && !act(clause, waiting[i], state)) {
                    return false;
                }
            }
            return true;
        }

        private boolean act(Clause clause, int number, State state) {
            switch (clause.action) {
                case DUTY:
                    return state.duties.add(number, businessDay(state.day, clause.digit));
                case BAN:
                    return state.bans.add(number, state.day + clause.digit);
                case POWER:
                    return state.powers.add(number, state.day + clause.digit);
                case DEBT:
                    return state.addDebt(clause.party, clause.otherParty, clause.digit);
                default:
                    await(clause.digit);
                    return true;
            }
        }

        private int businessDay(int from, int many) {
            int left = many;
            int day = from;
            while (left > 0 && day < FARTHEST_DAY) {
                day++;
                if (day > LAST_DAY || !freeDays[day]) {
                    left--;
                }
            }
            return day;
        }
    }

    /** Looks for courses; it has states of its own for each number of days that are still to come. */
    private static final class Search {
        final Runner runner = new Runner();
        private final State[] afterOne = new State[SEARCH_DAYS_MOST];
        private final State[] afterTwo = new State[SEARCH_DAYS_MOST];
        private final State[] afterDay = new State[SEARCH_DAYS_MOST];

        Search() {
            for (int i = 0; i < SEARCH_DAYS_MOST; i++) {
                afterOne[i] = new State();
                afterTwo[i] = new State();
                afterDay[i] = new State();
            }
        }

        private int firstCourse(Agreement agreement, State from, int party, int days) {
            if (days < 1 || days > SEARCH_DAYS_MOST) {
                return NONE;
            }
            if (isKeptByEndOfDay(agreement, from, party, days)) {
                return 0;
            }
            State one = afterOne[days - 1];
            for (int kind = 0; kind < KINDS; kind++) {
                if (changes(agreement, from, one, party, kind)
                        && isKeptByEndOfDay(agreement, one, party, days)) {
                    return 10 + kind;
                }
            }
            State two = afterTwo[days - 1];
            for (int kind = 0; kind < KINDS; kind++) {
                if (!changes(agreement, from, one, party, kind)) {
                    continue;
                }
                for (int second = 0; second < KINDS; second++) {
                    if (changes(agreement, one, two, party, second)
                            && isKeptByEndOfDay(agreement, two, party, days)) {
                        return 100 + 10 * kind + second;
                    }
                }
            }
            return NONE;
        }

        private boolean isKeptByEndOfDay(Agreement agreement, State from, int party, int days) {
            // Asked beforehand, since the end of the day does not tell whose breaches it made.
            if (agreement.hasDutyDue(from, party)) {
                return false;
            }
            State after = afterDay[days - 1];
            after.copyFrom(from);
            if (runner.endDay(agreement, after) == FULL) {
                return false;
            }
            return days == 1 || firstCourse(agreement, after, party, days - 1) != NONE;
        }

        /**
         * Whether an event makes another state, without a breach and without being full. One that
         * touches nothing need not be tried: what it leads to is what a shorter course leads to.
         */
        private boolean changes(Agreement agreement, State from, State into, int party, int kind) {
            if (!agreement.isTouchedBy(from, party, kind)) {
                return false;
            }
            into.copyFrom(from);
            return runner.happen(agreement, into, party, kind) == 0;
        }
    }
}
