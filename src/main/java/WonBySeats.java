import java.util.Arrays;

/** A town whose council has, after each vote, as many seats as the vote was won by. */
public final class WonBySeats {
    public static final int UNKNOWN = -1, OUTSIDE = -2, STATE = -3, FULL = -4, EVEN = -5, SHUT = -6, NONE = -9;
    public static final long LOST = Long.MIN_VALUE;

    private static final int NO_FAULT = 0, NULL = 1, CAST = 2, INDEX = 3, SIZE = 4;
    private static final int FAULTS_FROM = -10, TEXT_FAULTS_FROM = -100;
    private static final int MOST_PEOPLE = 8, LEAST_PEOPLE = 2, MOST_MATTERS = 6, MOST_OF_FACTION = 3;
    private static final int SHEETS = 4, MOST_CELLS = 80, SORTS = 3, KINDS = 3, MEASURES = 4, LAWS = 3;
    private static final int HONEST = 0, FOLLOWER = 1, CONTRARY = 2;
    private static final int YES = 1, NO = 0;
    private static final int SETS = 1 << MOST_PEOPLE, PEOPLE_MASK = SETS - 1;

    private final Sheet[] sheets;
    private final Town town;
    private final Hall hall;
    private final Course course;
    private final Ring ring;
    private final Faction faction;
    private final Orders orderly;
    private final Lot drawing;
    private int trace;
    private int fault;

    public WonBySeats() {
        sheets = new Sheet[SHEETS];
        for (int k = 0; k < SHEETS; k++) {
            sheets[k] = new Sheet();
        }
        town = new Town();
        hall = new Hall(town);
        course = new Course(town, hall);
        ring = new Ring(hall, course);
        faction = new Faction(town, hall);
        orderly = new Orders(town, hall);
        drawing = new Lot(town, hall);
    }

    // ---- 1 the town

    public int town(int sheet, int sort, int i, int n) {
        int refusal = whyNotTaken(sheet, sort, i, n);
        if (refusal != 0) {
            return refusal;
        }
        int wrong = Town.firstFault(sheets[sheet], i, n);
        if (wrong >= 0) {
            return TEXT_FAULTS_FROM - wrong;
        }
        town.found(sheets[sheet], i, n);
        return town.people;
    }

    public int ofOne(int x, int what) {
        if (!town.hasOne(x)) {
            return UNKNOWN;
        }
        if (what == -1) {
            return town.kinds[x];
        }
        if (!town.hasMatter(what)) {
            return OUTSIDE;
        }
        return town.wishesYes(x, what) ? 1 : 0;
    }

    public int wish(int x, int matter, boolean yes) {
        if (!town.hasOne(x) || !town.hasMatter(matter)) {
            return UNKNOWN;
        }
        if (town.wishesYes(x, matter) == yes) {
            return 0;
        }
        town.wishes[matter] ^= 1 << x;
        return 1;
    }

    public int measure(int v) {
        if (v < 0 || v >= MEASURES) {
            return OUTSIDE;
        }
        if (!town.stands()) {
            return STATE;
        }
        int old = town.measure;
        town.measure = v;
        return old;
    }

    public int law(int v) {
        if (v < 0 || v >= LAWS) {
            return OUTSIDE;
        }
        if (!town.stands()) {
            return STATE;
        }
        int old = town.law;
        town.law = v;
        return old;
    }

    public int agenda(int sheet, int sort, int i, int n) {
        int refusal = whyNotTaken(sheet, sort, i, n);
        if (refusal != 0) {
            return refusal;
        }
        if (!town.stands()) {
            return STATE;
        }
        return town.takeAgenda(sheets[sheet], i, n);
    }

    // ---- 2 a run

    public int vote(int q, int what) {
        if (q < 0 || q >= town.items) {
            return UNKNOWN;
        }
        if (what < 0 || what > 4) {
            return OUTSIDE;
        }
        runOnce();
        switch (what) {
            case 0: return town.agenda[q];
            case 1: return course.sitting[q];
            case 2: return course.said[q];
            case 3: return course.outcome[q];
            default: return course.seats[q];
        }
    }

    public int decided(int matter) {
        if (!town.hasMatter(matter)) {
            return UNKNOWN;
        }
        int q = town.placeOf(matter);
        if (q < 0) {
            return NONE;
        }
        runOnce();
        return course.outcome[q];
    }

    public int sits() {
        if (!town.stands()) {
            return STATE;
        }
        int sitting = Hall.sittingAt(runOnce());
        return sitting == 0 ? SHUT : sitting;
    }

    // ---- 3 ever

    public int ever(int what) {
        if (what < 0 || what > 1) {
            return OUTSIDE;
        }
        if (!town.stands()) {
            return STATE;
        }
        hall.useOwnRules();
        ring.find();
        return what == 0 ? ring.tail : ring.length;
    }

    public int often(int matter) {
        if (!town.hasMatter(matter)) {
            return UNKNOWN;
        }
        int q = town.placeOf(matter);
        if (q < 0) {
            return 0;
        }
        hall.useOwnRules();
        ring.find();
        return ring.timesWonByYes(q);
    }

    // ---- 4 factions, orders

    public int sway(int set, int want) {
        int members = Integer.bitCount(set);
        if (members < 1 || members > MOST_OF_FACTION || (set & ~town.everybody()) != 0) {
            return OUTSIDE;
        }
        if (want != YES && want != NO) {
            return OUTSIDE;
        }
        if (!town.stands()) {
            return STATE;
        }
        hall.useOwnRules();
        return faction.fewestSayings(set, want);
    }

    public int orders(int matter, int q) {
        if (!town.hasMatter(matter) || town.placeOf(matter) < 0) {
            return UNKNOWN;
        }
        if (q < -1 || q >= town.items) {
            return UNKNOWN;
        }
        hall.useOwnRules();
        int count = orderly.countWonByYes(matter);
        if (q == -1) {
            return count;
        }
        return count == 0 ? NONE : orderly.first[q];
    }

    public int key(int what) {
        if (what < 0 || what > 1) {
            return OUTSIDE;
        }
        if (!town.stands()) {
            return STATE;
        }
        runOnce();
        course.keepOutcome();
        int one = 0;
        int most = 0;
        for (int x = 0; x < town.people; x++) {
            course.go(hall.opening(), 1 << x);
            int changed = course.countChanged();
            if (changed > most) {
                most = changed;
                one = x;
            }
        }
        return what == 0 ? one : most;
    }

    // ---- 5 lots, what it was

    public long lot(int which) {
        if (which < 0 || which > 1 || !town.stands()) {
            return LOST;
        }
        hall.useOwnRules();
        drawing.drawAll();
        return which == 0 ? drawing.upper : drawing.lower;
    }

    public int fits(int sheet, int sort, int i) {
        int refusal = whyNotTaken(sheet, sort, i, town.items);
        if (refusal != 0) {
            return refusal;
        }
        if (!town.stands()) {
            return STATE;
        }
        int set = 0;
        for (int m = 0; m < MEASURES; m++) {
            for (int l = 0; l < LAWS; l++) {
                hall.useRules(m, l);
                course.go(hall.opening(), 0);
                if (course.hasSeatsAsIn(sheets[sheet], i)) {
                    set |= ruleBit(m, l);
                }
            }
        }
        return set;
    }

    public int safe() {
        if (!town.stands()) {
            return STATE;
        }
        int set = 0;
        for (int m = 0; m < MEASURES; m++) {
            for (int l = 0; l < LAWS; l++) {
                hall.useRules(m, l);
                if (orderly.isNeverShut()) {
                    set |= ruleBit(m, l);
                }
            }
        }
        return set;
    }

    // ---- 6 sheets, parts

    public int sheet(int k, int sort, int n) {
        fault = NO_FAULT;
        if (!isSheet(k)) {
            return UNKNOWN;
        }
        if (!isSort(sort) || n > MOST_CELLS) {
            return OUTSIDE;
        }
        if (n < 0) {
            return failed(SIZE);
        }
        sheets[k].renew(sort, n);
        return 1;
    }

    public int lose(int k) {
        if (!isSheet(k)) {
            return UNKNOWN;
        }
        boolean had = sheets[k].hasRow();
        sheets[k].clear();
        return had ? 1 : 0;
    }

    public int put(int k, int i, int v) {
        fault = NO_FAULT;
        if (!isSheet(k)) {
            return UNKNOWN;
        }
        Sheet to = sheets[k];
        if (!to.hasRow()) {
            return failed(NULL);
        }
        if (!to.hasCells(i, 1)) {
            return failed(INDEX);
        }
        to.store(i, v);
        return 1;
    }

    public long cell(int k, int i, int sort) {
        if (whyNotTaken(k, sort, i, 1) != 0) {
            return LOST;
        }
        return sheets[k].at(i);
    }

    public int copy(int k, int i, int other, int j, int n) {
        fault = NO_FAULT;
        if (!isSheet(k) || !isSheet(other)) {
            return UNKNOWN;
        }
        Sheet from = sheets[k];
        Sheet to = sheets[other];
        if (!from.hasRow() || !to.hasRow()) {
            return failed(NULL);
        }
        if (from.sort != to.sort) {
            return failed(CAST);
        }
        if (!from.hasCells(i, n) || !to.hasCells(j, n)) {
            return failed(INDEX);
        }
        System.arraycopy(from.cells, i, to.cells, j, n);
        return n;
    }

    public int tell(int x) {
        if (!town.hasOne(x)) {
            return UNKNOWN;
        }
        switch (town.kinds[x]) {
            case HONEST: return tellAsHonest(x);
            case FOLLOWER: return tellAsFollower(x);
            default: return tellAsContrary(x);
        }
    }

    public int swear(int x) {
        if (!town.hasOne(x)) {
            return UNKNOWN;
        }
        if (town.kinds[x] == CONTRARY) {
            leave(5);
            return 30;
        }
        leave(4);
        return x;
    }

    public int as(int x, int kind) {
        fault = NO_FAULT;
        if (!town.hasOne(x)) {
            return UNKNOWN;
        }
        if (kind < 0 || kind >= KINDS) {
            return OUTSIDE;
        }
        // each kind is also every kind of a lesser number
        return kind > town.kinds[x] ? failed(CAST) : 1;
    }

    public int trace() {
        return trace;
    }

    public int fault() {
        return fault;
    }

    public int many(int what) {
        switch (what) {
            case 0: return town.people;
            case 1: return town.matters;
            case 2: return town.measure;
            case 3: return town.law;
            case 4: return town.items;
            default: return OUTSIDE;
        }
    }

    // ---- what several calls use

    private static boolean isSheet(int k) {
        return k >= 0 && k < SHEETS;
    }

    private static boolean isSort(int sort) {
        return sort >= 0 && sort < SORTS;
    }

    private static int ruleBit(int measure, int law) {
        return 1 << (LAWS * measure + law);
    }

    private int failed(int number) {
        fault = number;
        return FAULTS_FROM - number;
    }

    /** 0 if n cells of a sheet from i on can be taken as a row of a sort; else what the call answers. */
    private int whyNotTaken(int k, int sort, int i, int n) {
        fault = NO_FAULT;
        if (!isSheet(k)) {
            return UNKNOWN;
        }
        if (!isSort(sort)) {
            return OUTSIDE;
        }
        Sheet from = sheets[k];
        if (from.hasRow() && from.sort != sort) {
            return failed(CAST);
        }
        if (!from.hasRow()) {
            return failed(NULL);
        }
        if (n < 0) {
            return failed(SIZE);
        }
        return from.hasCells(i, n) ? 0 : failed(INDEX);
    }

    private int runOnce() {
        hall.useOwnRules();
        return course.go(hall.opening(), 0);
    }

    private void leave(int number) {
        trace = 31 * trace + number;
    }

    private int tellAsHonest(int x) {
        leave(1);
        int count = 0;
        for (int m = 0; m < town.matters; m++) {
            if (town.wishesYes(x, m)) {
                count++;
            }
        }
        return count;
    }

    private int tellAsFollower(int x) {
        leave(2);
        return tellAsHonest(x) + 100;
    }

    private int tellAsContrary(int x) {
        leave(3);
        int asFollower = tellAsFollower(x);
        return asFollower + tellAsHonest(x);
    }

    /** A row of numbers, or nothing. Its cells are made once, so that new rows take no room. */
    private static final class Sheet {
        private static final int NOTHING = -1;

        final int[] cells = new int[MOST_CELLS];
        int length = NOTHING;
        int sort;

        boolean hasRow() {
            return length != NOTHING;
        }

        void renew(int newSort, int n) {
            Arrays.fill(cells, 0);
            sort = newSort;
            length = n;
        }

        void clear() {
            length = NOTHING;
        }

        /** Said without a sum, which could wrap. */
        boolean hasCells(int i, int n) {
            return i >= 0 && i <= length && n >= 0 && n <= length - i;
        }

        int at(int i) {
            return i >= 0 && i < length ? cells[i] : 0;
        }

        void store(int i, int v) {
            if (i >= 0 && i < length) {
                cells[i] = sort == 0 ? (byte) v : sort == 1 ? (short) v : v;
            }
        }
    }

    /** People, what they wish, and by which rules they vote on what; no people: there is no town. */
    private static final class Town {
        int people;
        int matters;
        int measure;
        int law;
        int items;
        int contraries;
        int benders;
        final int[] kinds = new int[MOST_PEOPLE];
        final int[] wishes = new int[MOST_MATTERS];
        final int[] agenda = new int[MOST_MATTERS];

        boolean stands() {
            return people > 0;
        }

        boolean hasOne(int x) {
            return x >= 0 && x < people;
        }

        boolean hasMatter(int m) {
            return m >= 0 && m < matters;
        }

        int everybody() {
            return (1 << people) - 1;
        }

        boolean wishesYes(int x, int m) {
            return (wishes[m] >> x & 1) != 0;
        }

        int placeOf(int matter) {
            for (int q = 0; q < items; q++) {
                if (agenda[q] == matter) {
                    return q;
                }
            }
            return -1;
        }

        /** The place of the first wrong code, n if the text ends too soon; -1: it is a text. */
        static int firstFault(Sheet text, int i, int n) {
            if (n < 1 || text.at(i) != 'm') {
                return 0;
            }
            if (n < 2 || !isDigitOfMatters(text.at(i + 1))) {
                return 1;
            }
            int width = text.at(i + 1) - '0' + 2;
            int one = 0;
            int offset = 0;
            for (int p = 2; p < n; p++) {
                if (one == MOST_PEOPLE || !goesOn(offset, text.at(i + p))) {
                    return p;
                }
                offset++;
                if (offset == width) {
                    offset = 0;
                    one++;
                }
            }
            return one >= LEAST_PEOPLE && offset == 0 ? -1 : n;
        }

        private static boolean isDigitOfMatters(int code) {
            return code >= '1' && code <= '0' + MOST_MATTERS;
        }

        private static boolean goesOn(int offset, int code) {
            switch (offset) {
                case 0: return code == ';';
                case 1: return kindOf(code) >= 0;
                default: return code == 'y' || code == 'n';
            }
        }

        private static int kindOf(int letter) {
            switch (letter) {
                case 'h': return HONEST;
                case 'f': return FOLLOWER;
                case 'c': return CONTRARY;
                default: return -1;
            }
        }

        /** From a text without fault. */
        void found(Sheet text, int i, int n) {
            clear();
            matters = Math.min(text.at(i + 1) - '0', MOST_MATTERS);
            int p = 2;
            while (p < n && people < MOST_PEOPLE) {
                settle(kindOf(text.at(i + p + 1)));
                for (int m = 0; m < matters; m++) {
                    if (text.at(i + p + 2 + m) == 'y') {
                        wishes[m] |= 1 << people;
                    }
                }
                people++;
                p += matters + 2;
            }
            items = matters;
            for (int m = 0; m < matters; m++) {
                agenda[m] = m;
            }
        }

        private void clear() {
            people = 0;
            measure = 0;
            law = 0;
            contraries = 0;
            benders = 0;
            Arrays.fill(wishes, 0);
        }

        private void settle(int kind) {
            kinds[people] = kind;
            if (kind != HONEST) {
                benders |= 1 << people;
            }
            if (kind == CONTRARY) {
                contraries |= 1 << people;
            }
        }

        /** n, or the refusal; nothing is taken before all cells have been looked at. */
        int takeAgenda(Sheet row, int i, int n) {
            if (n < 1 || n > MOST_MATTERS) {
                return OUTSIDE;
            }
            int told = 0;
            for (int q = 0; q < n; q++) {
                int m = row.at(i + q);
                if (!hasMatter(m)) {
                    return UNKNOWN;
                }
                told |= 1 << m;
            }
            if (Integer.bitCount(told) != n) {
                return OUTSIDE;
            }
            for (int q = 0; q < n; q++) {
                agenda[q] = row.at(i + q);
            }
            items = n;
            return n;
        }
    }

    /**
     * One vote and who gets a seat then. A moment is one number, so that searches make no objects:
     * who sits (a set, empty while the hall is shut) and, SETS times, who got the last seat.
     */
    private static final class Hall {
        private final Town town;
        private int measure;
        private int law;
        int said;
        int outcome;
        int seats;

        Hall(Town town) {
            this.town = town;
        }

        void useRules(int newMeasure, int newLaw) {
            measure = newMeasure;
            law = newLaw;
        }

        void useOwnRules() {
            useRules(town.measure, town.law);
        }

        int opening() {
            return Math.max(town.people - 1, 0) * SETS + town.everybody();
        }

        static int sittingAt(int moment) {
            return moment & PEOPLE_MASK;
        }

        /**
         * A number below SETS for a moment, another one for each that can come up by the law in use.
         * By law 2 those who sit are told by how many they are and who is the last; by the others
         * nobody asks who got the last seat.
         */
        int slotOf(int moment) {
            int sitting = sittingAt(moment);
            return law == 2 ? (moment / SETS) * 2 * MOST_PEOPLE + Integer.bitCount(sitting) : sitting;
        }

        /** The moment behind a vote; those who are free say what stands in wishes, whatever their kind. */
        int step(int moment, int wishes, int free) {
            int sitting = sittingAt(moment);
            if (sitting == 0) {
                said = 0;
                outcome = SHUT;
                seats = town.people;
                return moment | town.everybody();
            }
            said = sayings(sitting, wishes, free);
            int yes = Integer.bitCount(said);
            int no = Integer.bitCount(sitting) - yes;
            outcome = yes == no ? EVEN : yes > no ? YES : NO;
            seats = yes == no ? 0 : Math.min(seatsFor(Math.max(yes, no), Math.min(yes, no)), town.people);
            return seated(sitting, moment / SETS);
        }

        private int sayings(int sitting, int wishes, int free) {
            int bound = town.benders & ~free;
            int yes = 0;
            int lead = 0;
            for (int x = 0; x < town.people; x++) {
                int bit = 1 << x;
                if ((sitting & bit) != 0) {
                    boolean says = (wishes & bit) != 0;
                    if (lead != 0 && (bound & bit) != 0) {
                        says = lead > 0 != ((town.contraries & bit) != 0);
                    }
                    yes |= says ? bit : 0;
                    lead += says ? 1 : -1;
                }
            }
            return yes;
        }

        private int seatsFor(int more, int fewer) {
            switch (measure) {
                case 0: return more - fewer;
                case 1: return more;
                case 2: return fewer;
                default: return 2 * (more - fewer);
            }
        }

        private int seated(int sitting, int last) {
            if (seats == 0) {
                return last * SETS;
            }
            switch (law) {
                case 0: return last * SETS + firstOf(town.everybody(), seats);
                case 1: return last * SETS + winnersFirst(sitting);
                default: return inTurn(last);
            }
        }

        private int winnersFirst(int sitting) {
            int winners = outcome == YES ? said : sitting & ~said;
            int chosen = firstOf(winners, seats);
            chosen |= firstOf(sitting & ~winners, seats - Integer.bitCount(chosen));
            return chosen | firstOf(town.everybody() & ~sitting, seats - Integer.bitCount(chosen));
        }

        private int inTurn(int last) {
            int chosen = 0;
            for (int given = 0; given < seats; given++) {
                last = last + 1 < town.people ? last + 1 : 0;
                chosen |= 1 << last;
            }
            return last * SETS + chosen;
        }

        /** The first ones of a set by number, all of it if it has no more. */
        private static int firstOf(int set, int count) {
            int chosen = 0;
            for (int x = 0; x < MOST_PEOPLE && count > 0; x++) {
                int bit = set & 1 << x;
                if (bit != 0) {
                    chosen |= bit;
                    count--;
                }
            }
            return chosen;
        }
    }

    /** A run of the agenda, with what came of each vote. */
    private static final class Course {
        private final Town town;
        private final Hall hall;
        final int[] sitting = new int[MOST_MATTERS];
        final int[] said = new int[MOST_MATTERS];
        final int[] outcome = new int[MOST_MATTERS];
        final int[] seats = new int[MOST_MATTERS];
        private final int[] kept = new int[MOST_MATTERS];

        Course(Town town, Hall hall) {
            this.town = town;
            this.hall = hall;
        }

        /** The moment behind the run; the wishes of those who are turned count the other way round. */
        int go(int opening, int turned) {
            int moment = opening;
            for (int q = 0; q < town.items; q++) {
                sitting[q] = Hall.sittingAt(moment);
                moment = hall.step(moment, town.wishes[town.agenda[q]] ^ turned, 0);
                said[q] = hall.said;
                outcome[q] = hall.outcome;
                seats[q] = hall.seats;
            }
            return moment;
        }

        void keepOutcome() {
            System.arraycopy(outcome, 0, kept, 0, MOST_MATTERS);
        }

        int countChanged() {
            int count = 0;
            for (int q = 0; q < town.items; q++) {
                if (outcome[q] != kept[q]) {
                    count++;
                }
            }
            return count;
        }

        boolean hasSeatsAsIn(Sheet row, int i) {
            for (int q = 0; q < town.items; q++) {
                if (seats[q] != row.at(i + q)) {
                    return false;
                }
            }
            return true;
        }
    }

    /** Run after run, till one begins as an earlier one did. */
    private static final class Ring {
        private static final int NEVER = -1;

        private final Hall hall;
        private final Course course;
        private final int[] begunAt = new int[SETS];
        private int start;
        int tail;
        int length;

        Ring(Hall hall, Course course) {
            this.hall = hall;
            this.course = course;
        }

        void find() {
            Arrays.fill(begunAt, NEVER);
            start = hall.opening();
            // of more runs than there are slots two begin alike
            for (int run = 0; run <= SETS; run++) {
                int slot = hall.slotOf(start);
                if (begunAt[slot] != NEVER) {
                    tail = begunAt[slot];
                    length = run - tail;
                    return;
                }
                begunAt[slot] = run;
                start = course.go(start, 0);
            }
        }

        int timesWonByYes(int q) {
            int count = 0;
            int moment = start;
            for (int run = 0; run < length; run++) {
                moment = course.go(moment, 0);
                if (course.outcome[q] == YES) {
                    count++;
                }
            }
            return count;
        }
    }

    /** Looks, vote by vote, for the fewest sayings against wishes that lead to each moment. */
    private static final class Faction {
        private static final int UNREACHED = -1;

        private final Town town;
        private final Hall hall;
        private final int[] moments = new int[SETS];
        private final int[] costs = new int[SETS];
        private final int[] laterMoments = new int[SETS];
        private final int[] laterCosts = new int[SETS];

        Faction(Town town, Hall hall) {
            this.town = town;
            this.hall = hall;
        }

        int fewestSayings(int members, int want) {
            Arrays.fill(costs, UNREACHED);
            int opening = hall.opening();
            moments[hall.slotOf(opening)] = opening;
            costs[hall.slotOf(opening)] = 0;
            int best = UNREACHED;
            for (int q = 0; q < town.items; q++) {
                best = voteFromAll(town.wishes[town.agenda[q]], members, want);
            }
            return best == UNREACHED ? NONE : best;
        }

        /** Goes on from all moments by all sayings: the fewest by which this vote is as wanted. */
        private int voteFromAll(int wishes, int members, int want) {
            Arrays.fill(laterCosts, UNREACHED);
            int best = UNREACHED;
            for (int slot = 0; slot < SETS; slot++) {
                if (costs[slot] != UNREACHED) {
                    int choosers = members & Hall.sittingAt(moments[slot]);
                    int against = choosers;
                    // all parts of the set of choosers, the whole first, the empty one last
                    for (int part = 0; part < 1 << MOST_OF_FACTION; part++) {
                        int cost = costs[slot] + Integer.bitCount(against);
                        int later = hall.step(moments[slot], wishes ^ against, choosers);
                        reach(later, cost);
                        if (hall.outcome == want && isFewer(cost, best)) {
                            best = cost;
                        }
                        if (against == 0) {
                            break;
                        }
                        against = against - 1 & choosers;
                    }
                }
            }
            System.arraycopy(laterMoments, 0, moments, 0, SETS);
            System.arraycopy(laterCosts, 0, costs, 0, SETS);
            return best;
        }

        private void reach(int moment, int cost) {
            int slot = hall.slotOf(moment);
            if (isFewer(cost, laterCosts[slot])) {
                laterCosts[slot] = cost;
                laterMoments[slot] = moment;
            }
        }

        private static boolean isFewer(int cost, int than) {
            return than == UNREACHED || cost < than;
        }
    }

    /** Tries the orders of the agenda's matters, those that begin alike together. */
    private static final class Orders {
        private static final int[] ORDERS_OF = {1, 1, 2, 6, 24, 120, 720};

        private final Town town;
        private final Hall hall;
        private final int[] row = new int[MOST_MATTERS];
        private boolean found;
        final int[] first = new int[MOST_MATTERS];

        Orders(Town town, Hall hall) {
            this.town = town;
            this.hall = hall;
        }

        int countWonByYes(int matter) {
            found = false;
            return countFrom(0, mattersToPut(), hall.opening(), matter);
        }

        boolean isNeverShut() {
            return isOpenFrom(0, mattersToPut(), hall.opening());
        }

        private int mattersToPut() {
            int set = 0;
            for (int q = 0; q < town.items; q++) {
                set |= 1 << town.agenda[q];
            }
            return set;
        }

        private int countFrom(int depth, int left, int moment, int matter) {
            if (depth >= town.items) {
                return 0;
            }
            int count = 0;
            for (int m = 0; m < town.matters; m++) {
                if ((left >> m & 1) != 0) {
                    row[depth] = m;
                    int rest = left & ~(1 << m);
                    int later = hall.step(moment, town.wishes[m], 0);
                    if (m != matter) {
                        count += countFrom(depth + 1, rest, later, matter);
                    } else if (hall.outcome == YES) {
                        // what comes behind the matter is the same to it
                        count += ORDERS_OF[town.items - depth - 1];
                        keepFirst(depth, rest);
                    }
                }
            }
            return count;
        }

        /** Orders are come to as rows of numbers go, so the first that is found is the first. */
        private void keepFirst(int depth, int rest) {
            if (found) {
                return;
            }
            found = true;
            System.arraycopy(row, 0, first, 0, depth + 1);
            int q = depth + 1;
            for (int m = 0; m < town.matters && q < MOST_MATTERS; m++) {
                if ((rest >> m & 1) != 0) {
                    first[q] = m;
                    q++;
                }
            }
        }

        private boolean isOpenFrom(int depth, int left, int moment) {
            if (depth >= town.items) {
                return true;
            }
            for (int m = 0; m < town.matters; m++) {
                if ((left >> m & 1) != 0) {
                    int later = hall.step(moment, town.wishes[m], 0);
                    if (hall.seats == 0 || !isOpenFrom(depth + 1, left & ~(1 << m), later)) {
                        return false;
                    }
                }
            }
            return true;
        }
    }

    /** Seats by lot: of each number of seats how likely it is, as whole parts of one whole. */
    private static final class Lot {
        /** Each number of sets of so many of up to eight people divides it, and six of it fit a long. */
        private static final int PARTS = 840;
        /** Far above the steps that two longs need. */
        private static final int MOST_STEPS = 200;

        private final Town town;
        private final Hall hall;
        private final int[] setsOf = new int[MOST_PEOPLE + 1];
        private final long[] weights = new long[MOST_PEOPLE + 1];
        private final long[] laterWeights = new long[MOST_PEOPLE + 1];
        long upper;
        long lower;

        Lot(Town town, Hall hall) {
            this.town = town;
            this.hall = hall;
        }

        void drawAll() {
            countSets();
            Arrays.fill(weights, 0L);
            weights[town.people] = 1;
            long whole = 1;
            long won = 0;
            for (int q = 0; q < town.items; q++) {
                won = voteOfAllSets(town.wishes[town.agenda[q]]);
                whole *= PARTS;
            }
            long divisor = commonDivisor(whole, won);
            upper = divisor == 0 ? won : won / divisor;
            lower = divisor == 0 ? whole : whole / divisor;
        }

        /** In how many sets so many of the people can sit. */
        private void countSets() {
            Arrays.fill(setsOf, 0);
            setsOf[0] = 1;
            for (int x = 0; x < town.people; x++) {
                for (int k = x + 1; k > 0; k--) {
                    setsOf[k] += setsOf[k - 1];
                }
            }
        }

        /** How much of the whole goes to yes; weights become those behind the vote. */
        private long voteOfAllSets(int wishes) {
            Arrays.fill(laterWeights, 0L);
            long won = 0;
            for (int set = 0; set <= town.everybody(); set++) {
                int sitting = Integer.bitCount(set);
                if (weights[sitting] != 0 && setsOf[sitting] != 0) {
                    long weight = weights[sitting] * (PARTS / setsOf[sitting]);
                    hall.step(set, wishes, 0);
                    laterWeights[hall.seats] += weight;
                    won += hall.outcome == YES ? weight : 0;
                }
            }
            System.arraycopy(laterWeights, 0, weights, 0, MOST_PEOPLE + 1);
            return won;
        }

        private static long commonDivisor(long a, long b) {
            for (int steps = 0; steps < MOST_STEPS && b != 0; steps++) {
                long rest = a % b;
                a = b;
                b = rest;
            }
            return a;
        }
    }
}
