/** A word that goes from one to the next, each told to tell fewer; ../shared/DOC.md says what each call answers. */
public final class OneFewer {
    public static final int NONE = -1, BAD = -2, STATE = -3, FULL = -4;
    public static final long NO = Long.MIN_VALUE;

    private static final int UNKNOWN = -5;
    private static final int ANOTHER_KIND = -6;
    private static final int FAULT_AT_0 = -10;
    private static final int STOPS_NONE = -1001;
    private static final int STOPS_STATE = -1002;
    private static final int NOBODY = -1;

    private static final int HEARER = 0;
    private static final int BOUND = 1;
    private static final int KEEPER = 2;
    private static final int SAVED = 3;
    private static final int EARLY = 4;
    private static final int DEAF = 5;
    private static final int TOLD = 6;
    private static final int[] KIND_ABOVE = {-1, HEARER, HEARER, HEARER, BOUND, KEEPER, SAVED};

    private static final int MOST_PEOPLE = 7;
    private static final int MOST_KINDS = 7;
    private static final int MOST_ROW = 7;
    private static final int MOST_NUMBER = 9;
    private static final int MOST_DAY = 999;
    private static final int MOST_TAPE = 100;
    private static final int MOST_SIGN = 127;
    private static final int MOST_TOWNS = 5;
    private static final int MOST_CLAUSES = 10;
    private static final int MOST_OPEN = 5;
    private static final int MOST_SEEN = 6;
    private static final int MOST_SEEN_DAYS = 6;
    private static final int MOST_BEGAN_NUMBER = 6;
    private static final int MOST_BOOK = 8;
    private static final int MOST_TRACE = 20;
    private static final int MOST_SUMMED = 12;
    private static final int MOST_WANTED = 999999999;
    private static final int DAYS_OF_WEEK = 7;

    private final Asking asking;
    private final Telling telling;
    private final State now;
    private final State kept;
    private final Reader reader;
    private final Acts acts;
    private boolean isKept;

    public OneFewer() {
        asking = new Asking();
        telling = asking.telling;
        now = telling.state;
        kept = new State();
        reader = new Reader();
        acts = new Acts();
        isKept = false;
    }

    // ---- towns, people

    public int feed(int sign) {
        if (sign < 0 || sign > MOST_SIGN) {
            return BAD;
        }
        return now.tape.add(sign) ? now.tape.size : FULL;
    }

    public int town() {
        if (now.towns >= MOST_TOWNS) {
            return FULL;
        }
        boolean isTown = reader.read(now.tape);
        now.tape.size = 0;
        if (!isTown) {
            return FAULT_AT_0 - reader.place;
        }
        now.town.copyFrom(reader.town);
        now.towns++;
        return now.towns - 1;
    }

    public int person(int kind, int v) {
        if (!isIn(kind, MOST_KINDS)) {
            return NONE;
        }
        if (!isNumber(v)) {
            return BAD;
        }
        return now.people.add(kind, v) ? now.people.size - 1 : FULL;
    }

    public int of(int person, int what) {
        if (!now.people.has(person)) {
            return NONE;
        }
        Word word = now.word;
        switch (what) {
            case 0: return now.people.kinds[person];
            case 1: return now.people.values[person];
            case 2: return hasBit(word.heard, person) ? 1 : 0;
            case 4: return hasBit(word.told, person) ? 1 : 0;
            case 6: return now.people.known[person];
            case 10: return telling.fineOf(word, person);
            case 11: return now.people.rowSizes[person];
            case 3: case 5: case 7: case 8: case 9:
                return hasBit(word.heard, person) ? ofTeller(word, person, what) : UNKNOWN;
            default: return NONE;
        }
    }

    private int ofTeller(Word word, int person, int what) {
        switch (what) {
            case 3: return word.numbers[person];
            case 5: return word.days[person];
            case 7: return telling.mayOf(word, person);
            case 8: return telling.askedOf(word, person);
            default:
                int may = telling.mayOf(word, person);
                return now.people.pick(person, may, telling.askedOf(word, person));
        }
    }

    public int know(int one, int other, boolean is) {
        if (!now.people.has(one) || !now.people.has(other)) {
            return NONE;
        }
        if (one == other) {
            return BAD;
        }
        boolean was = hasBit(now.people.known[one], other);
        now.people.acquaint(one, other, is);
        return was ? 1 : 0;
    }

    public int row(int person, int other) {
        People people = now.people;
        if (!people.has(person) || (other != NOBODY && !people.has(other))) {
            return NONE;
        }
        if (people.kinds[person] != TOLD) {
            return STATE;
        }
        if (other == NOBODY) {
            people.rowSizes[person] = 0;
            return 0;
        }
        return people.addToRow(person, other) ? people.rowSizes[person] : FULL;
    }

    public int told(int what) {
        switch (what) {
            case 0: return now.word.date;
            case 1: return now.word.fines;
            case 2: return now.town.fewer;
            case 3: return now.town.law;
            case 4: return now.word.heard;
            default: return NONE;
        }
    }

    // ---- words

    public int begin(int person, int number) {
        if (!now.people.has(person)) {
            return NONE;
        }
        if (!isNumber(number)) {
            return BAD;
        }
        now.word.startWith(person, number, now.word.date);
        return 1;
    }

    public int day() {
        if (now.word.date >= MOST_DAY) {
            return STATE;
        }
        return telling.goDay(now.word, NOBODY, 0, NOBODY);
    }

    public long sum(int k) {
        if (!isIn(k, MOST_SUMMED + 1)) {
            return NO;
        }
        return now.town.sumOf(k);
    }

    public int enough(int m) {
        if (m < 0 || m > MOST_WANTED) {
            return BAD;
        }
        for (int k = 0; k <= MOST_SUMMED; k++) {
            if (now.town.sumOf(k) >= m) {
                return k;
            }
        }
        return UNKNOWN;
    }

    public int end(int what) {
        Word trial = asking.trial;
        trial.copyFrom(now.word);
        int days = telling.goOn(trial, NOBODY, 0, NOBODY);
        switch (what) {
            case 0: return days;
            case 1: return Integer.bitCount(trial.heard);
            case 2: return trial.fines;
            case 3: return now.people.all() & ~trial.heard;
            default: return NONE;
        }
    }

    // ---- what is best

    public int best(int number, int what) {
        if (!isIn(what, 3)) {
            return NONE;
        }
        if (!isNumber(number)) {
            return BAD;
        }
        if (now.people.size == 0) {
            return STATE;
        }
        asking.findBest(number);
        switch (what) {
            case 0: return asking.bestWho;
            case 1: return asking.bestHeard;
            default: return asking.bestFines;
        }
    }

    public int choice(int person, int what) {
        if (!now.people.has(person) || !isIn(what, 2)) {
            return NONE;
        }
        if (!hasBit(now.word.yetToTell(), person)) {
            return STATE;
        }
        asking.findChoice(person);
        return what == 0 ? asking.choiceSet : asking.choiceHeard;
    }

    public int reach(int person, int other) {
        if (!now.people.has(person) || !now.people.has(other)) {
            return NONE;
        }
        if (!hasBit(now.word.yetToTell(), person)) {
            return STATE;
        }
        return asking.findReach(person, other);
    }

    // ---- seen, odds

    public int see(int heard, int days) {
        if (heard == NOBODY) {
            now.seen.size = 0;
            return 0;
        }
        if (heard < 0 || heard > now.people.all() || !isIn(days, MOST_SEEN_DAYS + 1)) {
            return BAD;
        }
        return now.seen.add(heard, days) ? now.seen.size : FULL;
    }

    public int began(int what) {
        if (!isIn(what, 2)) {
            return NONE;
        }
        asking.findBegan();
        return what == 0 ? asking.beganWays : asking.beganFirst;
    }

    public int stops(int person) {
        if (!now.people.has(person)) {
            return STOPS_NONE;
        }
        if (hasBit(now.word.heard, person)) {
            return STOPS_STATE;
        }
        Word trial = asking.trial;
        trial.copyFrom(now.word);
        telling.goOn(trial, NOBODY, 0, NOBODY);
        int heard = Integer.bitCount(trial.heard & ~(1 << person));
        trial.copyFrom(now.word);
        telling.goOn(trial, NOBODY, 0, person);
        return heard - Integer.bitCount(trial.heard);
    }

    public long odds(int person, int number, int part) {
        if (!now.people.has(person) || !isNumber(number) || !isIn(part, 2) || now.people.size < 2) {
            return NO;
        }
        return partOf(asking.waysToHear(person, number), now.people.size - 1, part);
    }

    public long mean(int number, int part) {
        if (!isNumber(number) || !isIn(part, 2) || now.people.size < 1) {
            return NO;
        }
        return partOf(asking.finesOfAll(number), now.people.size, part);
    }

    public int book(int person, int day) {
        if (person == NOBODY) {
            now.book.size = 0;
            return 0;
        }
        if (!now.people.has(person)) {
            return NONE;
        }
        if (!isIn(day, MOST_DAY + 1)) {
            return BAD;
        }
        return now.book.add(person, day) ? now.book.size : FULL;
    }

    public int looked() {
        Word word = now.word;
        for (int i = 0; i < now.book.size; i++) {
            int person = now.book.firsts[i];
            if (!hasBit(word.heard, person) || word.days[person] != now.book.seconds[i]) {
                return i;
            }
        }
        return UNKNOWN;
    }

    // ---- acts, the image

    public int act(int person, int act, int x) {
        acts.ran = 0;
        if (!now.people.has(person)) {
            return 0;
        }
        acts.setOne(now.people.kinds[person], person, now.people.values[person]);
        switch (act) {
            case 0: return acts.hears(x);
            case 1: return acts.tells(x);
            case 2: return acts.pays(x);
            default: return 0;
        }
    }

    public int trace(int i) {
        return isIn(i, Math.min(acts.ran, MOST_TRACE)) ? acts.bodies[i] : NONE;
    }

    public int as(int person, int k) {
        if (!now.people.has(person) || !isIn(k, MOST_KINDS)) {
            return NONE;
        }
        return isUnder(now.people.kinds[person], k) ? now.people.values[person] : ANOTHER_KIND;
    }

    public int image() {
        kept.copyFrom(now);
        isKept = true;
        return now.people.size;
    }

    public int undo() {
        if (!isKept) {
            return STATE;
        }
        now.copyFrom(kept);
        return now.people.size;
    }

    public int count(int what) {
        switch (what) {
            case 0: return now.people.size;
            case 1: return now.towns;
            case 2: return now.seen.size;
            case 3: return now.book.size;
            case 4: return now.tape.size;
            case 5: return acts.ran;
            default: return NONE;
        }
    }

    // ---- what several of the classes need

    private static boolean isIn(int i, int size) {
        return i >= 0 && i < size;
    }

    private static boolean isNumber(int number) {
        return number >= 0 && number <= MOST_NUMBER;
    }

    private static boolean hasBit(int bits, int i) {
        return (bits >> i & 1) == 1;
    }

    /** Whether a KIND is another one, or under it. */
    private static boolean isUnder(int kind, int other) {
        int at = kind;
        for (int steps = 0; steps < MOST_KINDS && isIn(at, MOST_KINDS); steps++) {
            if (at == other) {
                return true;
            }
            at = KIND_ABOVE[at];
        }
        return false;
    }

    /** A part of a fraction in lowest terms; what is below the line is 1 at least. */
    private static long partOf(long above, long below, int part) {
        long divisor = below;
        long rest = above;
        // Euclid's steps on two longs end far below this bound
        for (int steps = 0; steps < 200 && rest != 0; steps++) {
            long next = divisor % rest;
            divisor = rest;
            rest = next;
        }
        if (divisor == 0) {
            return NO;
        }
        return (part == 0 ? above : below) / divisor;
    }

    /** THE TAPE. */
    private static final class Tape {
        private final int[] signs = new int[MOST_TAPE];
        private int size = 0;

        private boolean add(int sign) {
            if (size >= MOST_TAPE) {
                return false;
            }
            signs[size] = sign;
            size++;
            return true;
        }

        /** The sign at a place, or -1 behind the last one. */
        private int at(int place) {
            return place >= 0 && place < size ? signs[place] : -1;
        }

        private void copyFrom(Tape other) {
            System.arraycopy(other.signs, 0, signs, 0, MOST_TAPE);
            size = other.size;
        }
    }

    /**
     * A TOWN: its fewer, its law, and its clauses of shun and fine, whose E stands as steps
     * with each operator behind what it works on, so that no call has to go into itself.
     */
    private static final class Town {
        private static final int SHUN = 0;
        private static final int FINE = 1;
        /** The facts that are tested. */
        private static final int P = 0;
        private static final int O = 1;
        private static final int K = 2;
        private static final int N = 3;
        private static final int D = 4;
        private static final int FACTS = 5;
        private static final int NOT = -1;
        private static final int AND = -2;
        private static final int OR = -3;

        private int fewer = 1;
        private int law = 0;
        private int clauses = 0;
        private int steps = 0;
        private final int[] clauseKinds = new int[MOST_CLAUSES];
        private final int[] amounts = new int[MOST_CLAUSES];
        private final int[] starts = new int[MOST_CLAUSES];
        private final int[] ends = new int[MOST_CLAUSES];
        /** A fact that is tested (0 or more), or an operator. */
        private final int[] codes = new int[MOST_TAPE];
        private final int[] leasts = new int[MOST_TAPE];
        private final int[] mosts = new int[MOST_TAPE];

        private void clear() {
            fewer = 1;
            law = 0;
            clauses = 0;
            steps = 0;
        }

        private void addClause(int kind, int amount) {
            if (clauses < MOST_CLAUSES) {
                clauseKinds[clauses] = kind;
                amounts[clauses] = amount;
                starts[clauses] = steps;
                ends[clauses] = steps;
                clauses++;
            }
        }

        /** A step comes to the newest clause. */
        private void addStep(int code, int least, int most) {
            if (steps < MOST_TAPE && clauses > 0) {
                codes[steps] = code;
                leasts[steps] = least;
                mosts[steps] = most;
                steps++;
                ends[clauses - 1] = steps;
            }
        }

        /** The amounts of all clauses of one kind whose E holds, together. */
        private int weigh(int kind, int[] facts) {
            int together = 0;
            for (int clause = 0; clause < clauses; clause++) {
                if (clauseKinds[clause] == kind && holds(clause, facts)) {
                    together += amounts[clause];
                }
            }
            return together;
        }

        private boolean holds(int clause, int[] facts) {
            // the truths that wait for an operator are bits: by 5 open ones there are 13 at most
            int waiting = 0;
            for (int i = starts[clause]; i < ends[clause]; i++) {
                int code = codes[i];
                if (code == NOT) {
                    waiting ^= 1;
                } else if (code == AND) {
                    waiting = waiting >> 1 & (waiting | ~1);
                } else if (code == OR) {
                    waiting = waiting >> 1 | waiting & 1;
                } else if (code >= 0 && code < facts.length) {
                    boolean is = facts[code] >= leasts[i] && facts[code] <= mosts[i];
                    waiting = waiting << 1 | (is ? 1 : 0);
                }
            }
            return (waiting & 1) == 1;
        }

        private long sumOf(int k) {
            if (fewer <= 0) {
                return k;
            }
            long together = 0;
            for (int number = 1; number <= k; number++) {
                // only the numbers that k comes down to by steps of fewer count
                if ((k - number) % fewer == 0) {
                    together = number + number * together;
                }
            }
            return together;
        }

        private void copyFrom(Town other) {
            fewer = other.fewer;
            law = other.law;
            clauses = other.clauses;
            steps = other.steps;
            System.arraycopy(other.clauseKinds, 0, clauseKinds, 0, MOST_CLAUSES);
            System.arraycopy(other.amounts, 0, amounts, 0, MOST_CLAUSES);
            System.arraycopy(other.starts, 0, starts, 0, MOST_CLAUSES);
            System.arraycopy(other.ends, 0, ends, 0, MOST_CLAUSES);
            System.arraycopy(other.codes, 0, codes, 0, MOST_TAPE);
            System.arraycopy(other.leasts, 0, leasts, 0, MOST_TAPE);
            System.arraycopy(other.mosts, 0, mosts, 0, MOST_TAPE);
        }
    }

    /** Reads a TOWN; where it can't, place is that of the FAULT. */
    private static final class Reader {
        private static final int NO_FACT = -1;
        private static final int MOST_VALUE = 99;

        private final Tape tape = new Tape();
        private final Town town = new Town();
        private int place = 0;
        /** The newest n or number that was read. */
        private int number = 0;
        /** Whether the clause whose head was read goes on with E. */
        private boolean hasCondition = false;

        private boolean read(Tape from) {
            tape.copyFrom(from);
            town.clear();
            place = 0;
            for (int clause = 1; clause <= MOST_CLAUSES; clause++) {
                if (!readHead() || hasCondition && !readEither(0)) {
                    return false;
                }
                if (place >= tape.size) {
                    return true;
                }
                if (clause == MOST_CLAUSES || !skip(';')) {
                    return false;
                }
            }
            return false;
        }

        /** A clause, up to its E. */
        private boolean readHead() {
            switch (tape.at(place)) {
                case 's': return readShun();
                case 'f': return tape.at(place + 1) == 'e' ? readFewer() : readFine();
                case 'l': return readLaw();
                default: return false;
            }
        }

        private boolean readShun() {
            if (!readWord("shun ")) {
                return false;
            }
            town.addClause(Town.SHUN, 1);
            hasCondition = true;
            return true;
        }

        private boolean readFine() {
            if (!readWord("fine ") || !readNumber() || !skip(' ')) {
                return false;
            }
            town.addClause(Town.FINE, number);
            hasCondition = true;
            return true;
        }

        private boolean readFewer() {
            if (!readWord("fewer ") || !readNumber()) {
                return false;
            }
            town.fewer = number;
            hasCondition = false;
            return true;
        }

        private boolean readLaw() {
            if (!readWord("law ") || !readNumber()) {
                return false;
            }
            town.law = number % 2;
            hasCondition = false;
            return true;
        }

        /** E and its T's at once: an | waits till the & of the T behind it are through. */
        private boolean readEither(int open) {
            if (!readPart(open)) {
                return false;
            }
            boolean waits = false;
            for (int parts = 1; parts <= MOST_TAPE; parts++) {
                boolean both = skip('&');
                if (!both && waits) {
                    town.addStep(Town.OR, 0, 0);
                    waits = false;
                }
                if (!both && !skip('|')) {
                    return true;
                }
                if (!readPart(open)) {
                    return false;
                }
                if (both) {
                    town.addStep(Town.AND, 0, 0);
                } else {
                    waits = true;
                }
            }
            return false;
        }

        /** F; open is how many of ! and ( are open ahead of it. */
        private boolean readPart(int open) {
            int sign = tape.at(place);
            if (sign != '!' && sign != '(') {
                return readTest();
            }
            if (open >= MOST_OPEN) {
                return false;
            }
            place++;
            if (sign == '(') {
                return readEither(open + 1) && skip(')');
            }
            if (!readPart(open + 1)) {
                return false;
            }
            town.addStep(Town.NOT, 0, 0);
            return true;
        }

        private boolean readTest() {
            int fact = factOf(tape.at(place));
            if (fact == NO_FACT) {
                return false;
            }
            place++;
            int sign = tape.at(place);
            if (sign != '<' && sign != '=' && sign != '>') {
                return false;
            }
            place++;
            if (!readNumber()) {
                return false;
            }
            if (sign == '<') {
                town.addStep(fact, 0, number - 1);
            } else if (sign == '=') {
                town.addStep(fact, number, number);
            } else {
                town.addStep(fact, number + 1, MOST_VALUE);
            }
            return true;
        }

        private int factOf(int sign) {
            switch (sign) {
                case 'p': return Town.P;
                case 'o': return Town.O;
                case 'k': return Town.K;
                case 'n': return Town.N;
                case 'd': return Town.D;
                default: return NO_FACT;
            }
        }

        private boolean readNumber() {
            int first = tape.at(place);
            if (first < '0' || first > '9') {
                return false;
            }
            place++;
            number = first - '0';
            int second = tape.at(place);
            if (number != 0 && second >= '0' && second <= '9') {
                place++;
                number = 10 * number + second - '0';
            }
            return true;
        }

        private boolean readWord(String word) {
            for (int i = 0; i < word.length(); i++) {
                if (!skip(word.charAt(i))) {
                    return false;
                }
            }
            return true;
        }

        private boolean skip(char sign) {
            if (tape.at(place) != sign) {
                return false;
            }
            place++;
            return true;
        }
    }

    /** The PEOPLE: what they are, whom they KNOW, their ROWS. */
    private static final class People {
        private int size = 0;
        private final int[] kinds = new int[MOST_PEOPLE];
        private final int[] values = new int[MOST_PEOPLE];
        private final int[] known = new int[MOST_PEOPLE];
        private final int[] rowSizes = new int[MOST_PEOPLE];
        private final int[] rows = new int[MOST_PEOPLE * MOST_ROW];

        private boolean has(int person) {
            return isIn(person, size);
        }

        private int all() {
            return (1 << size) - 1;
        }

        private boolean add(int kind, int v) {
            if (size >= MOST_PEOPLE) {
                return false;
            }
            kinds[size] = kind;
            values[size] = v;
            known[size] = 0;
            rowSizes[size] = 0;
            size++;
            return true;
        }

        private void acquaint(int one, int other, boolean is) {
            known[one] = is ? known[one] | 1 << other : known[one] & ~(1 << other);
            known[other] = is ? known[other] | 1 << one : known[other] & ~(1 << one);
        }

        private boolean addToRow(int person, int other) {
            if (rowSizes[person] >= MOST_ROW) {
                return false;
            }
            rows[person * MOST_ROW + rowSizes[person]] = other;
            rowSizes[person]++;
            return true;
        }

        /** The DEAF ones who can't hear on a DAY. */
        private int deafOn(int date) {
            int deaf = 0;
            for (int one = 0; one < size; one++) {
                if (kinds[one] == DEAF && date % (values[one] + 2) == 0) {
                    deaf |= 1 << one;
                }
            }
            return deaf;
        }

        /** Whom one chooses of those it may tell. */
        private int pick(int one, int may, int asked) {
            int left = Math.min(asked, Integer.bitCount(may));
            int picked = 0;
            if (kinds[one] == TOLD) {
                picked = pickFromRow(one, may, left);
                left -= Integer.bitCount(picked);
            }
            for (int i = 0; i < left; i++) {
                picked |= pickNext(kinds[one], may & ~picked);
            }
            return picked;
        }

        private int pickFromRow(int one, int may, int most) {
            int picked = 0;
            for (int i = 0; i < rowSizes[one] && Integer.bitCount(picked) < most; i++) {
                picked |= may & 1 << rows[one * MOST_ROW + i];
            }
            return picked;
        }

        private int pickNext(int kind, int rest) {
            int next = NOBODY;
            for (int other = 0; other < size; other++) {
                if (hasBit(rest, other) && (next == NOBODY || isAhead(kind, other, next))) {
                    next = other;
                }
            }
            return next == NOBODY ? 0 : 1 << next;
        }

        /** Whether one of a KIND would sooner choose the later of two. */
        private boolean isAhead(int kind, int later, int earlier) {
            if (kind == BOUND || kind == EARLY) {
                return Integer.bitCount(known[later]) > Integer.bitCount(known[earlier]);
            }
            return kind == SAVED || kind == TOLD;
        }

        private void copyFrom(People other) {
            size = other.size;
            System.arraycopy(other.kinds, 0, kinds, 0, MOST_PEOPLE);
            System.arraycopy(other.values, 0, values, 0, MOST_PEOPLE);
            System.arraycopy(other.known, 0, known, 0, MOST_PEOPLE);
            System.arraycopy(other.rowSizes, 0, rowSizes, 0, MOST_PEOPLE);
            System.arraycopy(other.rows, 0, rows, 0, MOST_PEOPLE * MOST_ROW);
        }
    }

    /** DAY, FINES, and who has HEARD and TOLD the word. */
    private static final class Word {
        private int date = 0;
        private int fines = 0;
        private int heard = 0;
        private int told = 0;
        private final int[] numbers = new int[MOST_PEOPLE];
        private final int[] days = new int[MOST_PEOPLE];

        private void startWith(int person, int number, int onDate) {
            date = onDate;
            fines = 0;
            heard = 1 << person;
            told = 0;
            numbers[person] = number;
            days[person] = onDate;
        }

        private int yetToTell() {
            return heard & ~told;
        }

        private void copyFrom(Word other) {
            date = other.date;
            fines = other.fines;
            heard = other.heard;
            told = other.told;
            System.arraycopy(other.numbers, 0, numbers, 0, MOST_PEOPLE);
            System.arraycopy(other.days, 0, days, 0, MOST_PEOPLE);
        }
    }

    /** Rows of two numbers told by hand: what was SEEN, THE BOOK. */
    private static final class Rows {
        private int size = 0;
        private final int[] firsts;
        private final int[] seconds;

        private Rows(int most) {
            firsts = new int[Math.max(0, most)];
            seconds = new int[Math.max(0, most)];
        }

        private boolean add(int first, int second) {
            if (size >= firsts.length || size >= seconds.length) {
                return false;
            }
            firsts[size] = first;
            seconds[size] = second;
            size++;
            return true;
        }

        private void copyFrom(Rows other) {
            size = 0;
            for (int i = 0; i < other.size; i++) {
                add(other.firsts[i], other.seconds[i]);
            }
        }
    }

    /** All that THE IMAGE keeps. */
    private static final class State {
        private final Tape tape = new Tape();
        private final Town town = new Town();
        private int towns = 0;
        private final People people = new People();
        private final Word word = new Word();
        private final Rows seen = new Rows(MOST_SEEN);
        private final Rows book = new Rows(MOST_BOOK);

        private void copyFrom(State other) {
            tape.copyFrom(other.tape);
            town.copyFrom(other.town);
            towns = other.towns;
            people.copyFrom(other.people);
            word.copyFrom(other.word);
            seen.copyFrom(other.seen);
            book.copyFrom(other.book);
        }
    }

    /** How a word, the one that is or one on trial, goes from one to the next. */
    private static final class Telling {
        /** What o is where there is no other one, and n of one who has not HEARD it. */
        private static final int NO_OTHER = 9;
        private static final int NOT_HEARD = 9;

        private final State state = new State();
        private final int[] facts = new int[Town.FACTS];

        private void setFacts(Word word, int one, int other) {
            facts[Town.P] = one;
            facts[Town.O] = other;
            facts[Town.K] = state.people.kinds[one];
            facts[Town.N] = hasBit(word.heard, one) ? word.numbers[one] : NOT_HEARD;
            facts[Town.D] = word.date % DAYS_OF_WEEK;
        }

        private int mayOf(Word word, int one) {
            int may = 0;
            for (int other = 0; other < state.people.size; other++) {
                if (hasBit(state.people.known[one], other) && !hasBit(word.heard, other)) {
                    setFacts(word, one, other);
                    if (state.town.weigh(Town.SHUN, facts) == 0) {
                        may |= 1 << other;
                    }
                }
            }
            return may;
        }

        private int fineOf(Word word, int one) {
            setFacts(word, one, NO_OTHER);
            return state.town.weigh(Town.FINE, facts);
        }

        private int askedOf(Word word, int one) {
            int number = word.numbers[one];
            int kind = state.people.kinds[one];
            if (kind == KEEPER || kind == DEAF) {
                return number <= state.people.values[one] % 3 ? 0 : number;
            }
            return kind == EARLY ? number + 1 : number;
        }

        /**
         * A DAY goes: how many HEARD it on it. The chooser, if there is one, tells those of a set;
         * the one told in vain, if there is one, does not hear it.
         */
        private int goDay(Word word, int chooser, int set, int vain) {
            int tellers = word.yetToTell();
            int deaf = state.people.deafOn(word.date) | (vain == NOBODY ? 0 : 1 << vain);
            int hearers = 0;
            // heard and told stay as they are in this loop: all choose by how all is ahead of the DAY
            for (int one = 0; one < state.people.size; one++) {
                if (hasBit(tellers, one)) {
                    int asked = askedOf(word, one);
                    int chosen = one == chooser ? set : state.people.pick(one, mayOf(word, one), asked);
                    int missing = asked - Integer.bitCount(chosen);
                    word.fines += missing > 0 ? missing * fineOf(word, one) : 0;
                    hand(word, one, chosen & ~deaf, hearers);
                    hearers |= chosen & ~deaf;
                }
            }
            word.told |= tellers;
            word.heard |= hearers;
            word.date++;
            return Integer.bitCount(hearers);
        }

        /** One hands its NUMBER on to those who hear it, some of whom were told already on this DAY. */
        private void hand(Word word, int one, int ears, int before) {
            int number = Math.max(0, word.numbers[one] - state.town.fewer);
            for (int other = 0; other < state.people.size; other++) {
                if (hasBit(ears, other)) {
                    word.days[other] = word.date;
                    if (!hasBit(before, other)) {
                        word.numbers[other] = number;
                    } else if (state.town.law == 0) {
                        word.numbers[other] = Math.min(word.numbers[other], number);
                    } else {
                        word.numbers[other] = Math.max(word.numbers[other], number);
                    }
                }
            }
        }

        /** DAYS go on till the END: how many that takes. */
        private int goOn(Word word, int chooser, int set, int vain) {
            // each tells once, so there are no more DAYS than PEOPLE
            for (int days = 0; days <= MOST_PEOPLE; days++) {
                if (word.yetToTell() == 0) {
                    return days;
                }
                goDay(word, chooser, set, vain);
            }
            return MOST_PEOPLE;
        }
    }

    /** What is asked: all of it runs on a word on trial, so that nothing changes. */
    private static final class Asking {
        private final Telling telling = new Telling();
        private final Word trial = new Word();
        private int bestWho = NOBODY;
        private int bestHeard = 0;
        private int bestFines = 0;
        private int choiceSet = 0;
        private int choiceHeard = 0;
        private int beganWays = 0;
        private int beganFirst = UNKNOWN;

        private void findBest(int number) {
            bestWho = NOBODY;
            for (int who = 0; who < telling.state.people.size; who++) {
                trial.startWith(who, number, telling.state.word.date);
                telling.goOn(trial, NOBODY, 0, NOBODY);
                int heard = Integer.bitCount(trial.heard);
                boolean better = heard > bestHeard || heard == bestHeard && trial.fines < bestFines;
                if (bestWho == NOBODY || better) {
                    bestWho = who;
                    bestHeard = heard;
                    bestFines = trial.fines;
                }
            }
        }

        /** Whether a set is one that one who has yet to tell it could choose of those it may tell. */
        private boolean isChoosable(int set, int may, int asked) {
            int size = Math.min(asked, Integer.bitCount(may));
            return (set & ~may) == 0 && Integer.bitCount(set) == size;
        }

        private void findChoice(int person) {
            Word word = telling.state.word;
            int may = telling.mayOf(word, person);
            int asked = telling.askedOf(word, person);
            choiceSet = 0;
            choiceHeard = -1;
            for (int set = 0; set < 1 << MOST_PEOPLE; set++) {
                if (isChoosable(set, may, asked)) {
                    trial.copyFrom(word);
                    telling.goOn(trial, person, set, NOBODY);
                    int heard = Integer.bitCount(trial.heard);
                    if (heard > choiceHeard) {
                        choiceSet = set;
                        choiceHeard = heard;
                    }
                }
            }
        }

        private int findReach(int person, int other) {
            Word word = telling.state.word;
            int may = telling.mayOf(word, person);
            int asked = telling.askedOf(word, person);
            for (int set = 0; set < 1 << MOST_PEOPLE; set++) {
                if (isChoosable(set, may, asked)) {
                    trial.copyFrom(word);
                    telling.goOn(trial, person, set, NOBODY);
                    if (hasBit(trial.heard, other)) {
                        return set;
                    }
                }
            }
            return UNKNOWN;
        }

        private void findBegan() {
            beganWays = 0;
            beganFirst = UNKNOWN;
            for (int who = 0; who < telling.state.people.size; who++) {
                for (int number = 0; number <= MOST_BEGAN_NUMBER; number++) {
                    if (isAsSeen(who, number)) {
                        beganFirst = beganWays == 0 ? 10 * who + number : beganFirst;
                        beganWays++;
                    }
                }
            }
        }

        private boolean isAsSeen(int who, int number) {
            trial.startWith(who, number, telling.state.word.date);
            Rows seen = telling.state.seen;
            for (int days = 0; days <= MOST_SEEN_DAYS; days++) {
                for (int i = 0; i < seen.size; i++) {
                    if (seen.seconds[i] == days && seen.firsts[i] != trial.heard) {
                        return false;
                    }
                }
                telling.goDay(trial, NOBODY, 0, NOBODY);
            }
            return true;
        }

        /** Of how many others one HEARS it, if it begins with them. */
        private int waysToHear(int person, int number) {
            int ways = 0;
            for (int who = 0; who < telling.state.people.size; who++) {
                if (who != person) {
                    trial.startWith(who, number, telling.state.word.date);
                    telling.goOn(trial, NOBODY, 0, NOBODY);
                    ways += hasBit(trial.heard, person) ? 1 : 0;
                }
            }
            return ways;
        }

        private long finesOfAll(int number) {
            long fines = 0;
            for (int who = 0; who < telling.state.people.size; who++) {
                trial.startWith(who, number, telling.state.word.date);
                telling.goOn(trial, NOBODY, 0, NOBODY);
                fines += trial.fines;
            }
            return fines;
        }
    }

    /**
     * ACTS of one, and THE TRACE of the bodies that they run. Each branch is what a KIND comes to:
     * its own body, then the body above that its super goes to.
     */
    private static final class Acts {
        private int kind = HEARER;
        private int i = 0;
        private int v = 0;
        private int ran = 0;
        private final int[] bodies = new int[MOST_TRACE];

        private void setOne(int ofKind, int number, int value) {
            kind = ofKind;
            i = number;
            v = value;
        }

        private void run(int body) {
            if (ran < MOST_TRACE) {
                bodies[ran] = body;
            }
            ran++;
        }

        private int hears(int x) {
            if (isUnder(kind, BOUND)) {
                run(11);
                run(1);
                return x * 3 + i;
            }
            if (isUnder(kind, DEAF)) {
                run(51);
                run(1);
                return x + i ^ i;
            }
            run(1);
            return x + i;
        }

        private int tells(int x) {
            if (isUnder(kind, KEEPER)) {
                run(21);
                run(2);
                return -(hears(x) - v);
            }
            if (isUnder(kind, TOLD)) {
                run(61);
                run(2);
                return hears(x) - v + v;
            }
            run(2);
            return hears(x) - v;
        }

        private int pays(int x) {
            if (isUnder(kind, SAVED)) {
                run(31);
                run(3);
                return tells(x) * 2 ^ 7;
            }
            if (isUnder(kind, EARLY)) {
                run(41);
                run(3);
                return tells(x - 1) * 2 + hears(2);
            }
            run(3);
            return tells(x) * 2;
        }
    }
}
