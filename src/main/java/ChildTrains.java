import java.util.Arrays;

/** Children sent to the country: platform, halls, orders, houses, torn labels, paths and lessons. */
public final class ChildTrains {
    public static final int BAD = -1, STATE = -2, FULL = -3, NONE = -9;

    private static final int MOST_CHILDREN = 48, MOST_HOUSES = 24, MOST_EVENTS = 80;
    private static final int MOST_TYPED = 600, MOST_LETTERS = 8;
    private static final int MOST_ORDERS = 30, MOST_CONDS = 6;
    private static final int MOST_LODGED = 12, MOST_LODGINGS = 6;
    private static final int PARTIES = 8, TRAINS = 6, VILLAGES = 6, SORTS = 4;
    private static final int LAST_MINUTE = 300, LAST_DAY = 199, LAST_WEEK = 27;
    private static final int HOME = 0, BILLET = 1, HOSTEL = 2, NURSERY = 3;
    private static final int BAD_RULING = -5, FAULT_BASE = -10;

    private final Children children = new Children();
    private final Draft draft = new Draft();
    private final Platform platform = new Platform();
    private final Houses houses = new Houses();
    private final Hall meeting = new Hall();
    private final Lodging lodging = new Lodging();
    private final OrderReader reader = new OrderReader();
    private final Register register = new Register();
    private final Paths routes = new Paths();
    private final int[] tally = new int[PARTIES];
    private final int[][] delays = new int[VILLAGES][3];
    private OrderBook book = new OrderBook();
    private OrderBook spareBook = new OrderBook();
    private long traced = 0;

    public ChildTrains() {
    }

    // ---- children, trains

    public int child(int sex, int age, int kin, int party) {
        if (!within(sex, 0, 1) || !within(age, 1, 15) || !within(kin, 0, 20) || !isParty(party)) {
            return BAD;
        }
        if (children.size >= MOST_CHILDREN) {
            return FULL;
        }
        boardAnew();
        return children.add(sex, age, kin, party);
    }

    public int type(long v, int n) {
        if (!within(n, 1, 8)) {
            return BAD;
        }
        if (draft.length + n > MOST_TYPED) {
            return FULL;
        }
        draft.append(v, n);
        return draft.length;
    }

    public int clear() {
        return draft.empty();
    }

    public int name(int child) {
        if (!isChild(child)) {
            return BAD;
        }
        if (!draft.isName()) {
            return STATE;
        }
        children.name[child] = draft.packed();
        children.letters[child] = draft.length;
        return draft.empty();
    }

    public int party(int party, int what, int v) {
        if (!isParty(party) || !within(what, 0, 1) || !within(v, 0, what == 0 ? TRAINS - 1 : LAST_MINUTE)) {
            return BAD;
        }
        int[] row = what == 0 ? platform.label : platform.comes;
        int was = row[party];
        row[party] = v;
        boardAnew();
        return was;
    }

    public int train(int train, int what, int v) {
        if (!isTrain(train) || !within(what, 0, 4)
                || !within(v, Platform.LEAST[what], Platform.MOST[what])) {
            return BAD;
        }
        int was = platform.trains[train][what];
        platform.trains[train][what] = v;
        boardAnew();
        return was;
    }

    public int wayOf(int v) {
        if (!within(v, 0, 2)) {
            return BAD;
        }
        int was = platform.way;
        platform.way = v;
        boardAnew();
        return was;
    }

    public int boarded(int child, int what) {
        if (!isChild(child) || !within(what, 0, 2)) {
            return BAD;
        }
        platform.settle(children);
        return what == 0 ? platform.trainOf[child]
                : what == 1 ? platform.minuteOf[child] : platform.villageOf(child);
    }

    public int mixed(int what) {
        if (!within(what, 0, 2)) {
            return BAD;
        }
        platform.settle(children);
        int left = platform.carried(children, NONE);
        return what == 0 ? platform.mislaid(children) : what == 1 ? left : children.size - left;
    }

    public int load(int train, int party) {
        if ((train != NONE && !isTrain(train)) || !isParty(party)) {
            return BAD;
        }
        platform.settle(children);
        return platform.carriedOf(children, train, party);
    }

    // ---- houses, halls

    public int house(int village, int kind, int beds, int takes, int habit) {
        if (!isVillage(village) || !within(kind, BILLET, NURSERY) || !within(beds, 1, 4)
                || !within(takes, 0, 15) || !within(habit, 0, 3)) {
            return BAD;
        }
        if (houses.size >= MOST_HOUSES) {
            return FULL;
        }
        lodging.village = NONE;
        return houses.add(village, kind, beds, takes, habit);
    }

    public int pay(int kind, int n, int k) {
        if (!within(kind, HOME, NURSERY) || !within(n, 0, 9) || !within(k, 0, n)) {
            return BAD;
        }
        traced += bodiesAsked(kind);
        return payFor(kind, n, k);
    }

    public int hall(int village, int what) {
        if (!isVillage(village) || !within(what, 0, 2)) {
            return BAD;
        }
        assemble(village);
        if (what == 0) {
            return meeting.size;
        }
        meeting.choose(children, houses, village);
        return what == 1 ? meeting.countOver() : meeting.countParted(children);
    }

    public int chosen(int child) {
        if (!isChild(child)) {
            return BAD;
        }
        platform.settle(children);
        int village = platform.villageOf(child);
        if (village == NONE) {
            return NONE;
        }
        assemble(village);
        meeting.choose(children, houses, village);
        return meeting.houseOf[child];
    }

    public int best(int village, int what) {
        if (!isVillage(village) || !within(what, 0, 1)) {
            return BAD;
        }
        assemble(village);
        if (meeting.size > MOST_LODGED || houses.countIn(village) > MOST_LODGINGS) {
            return STATE;
        }
        if (lodging.village != village) {
            lodging.solve(children, houses, meeting, village);
        }
        return what == 0 ? lodging.over : lodging.parted;
    }

    // ---- orders

    public int orders() {
        int fault = reader.read(draft, spareBook);
        if (fault != NONE) {
            return FAULT_BASE - fault;
        }
        OrderBook old = book;
        book = spareBook;
        spareBook = old;
        draft.empty();
        return book.size;
    }

    public int delay(int village, int of, int v) {
        if (!isVillage(village) || !within(of, 0, 2) || !within(v, 0, 20)) {
            return BAD;
        }
        int was = delays[village][of];
        delays[village][of] = v;
        return was;
    }

    public int ruling(int what, int child, int house, int day) {
        if (!canRule(what, child, house, day)) {
            return BAD_RULING;
        }
        return rulingOf(what, child, house, day);
    }

    public int why(int what, int child, int house, int day) {
        if (!canRule(what, child, house, day)) {
            return BAD;
        }
        return rulerOf(what, child, house, day);
    }

    // ---- days

    public int lodge(int child, int house, int day) {
        if (!isChild(child) || !isHouse(house) || !isDay(day) || register.now[child] == house) {
            return BAD;
        }
        int deed = register.now[child] == NONE ? OrderBook.LODGE : OrderBook.MOVE;
        if (day < register.latest || register.inside(house, LAST_DAY) >= houses.beds[house]
                || !houses.takesSort(house, children.sortOf(child))
                || rulingOf(deed, child, house, day) == -1) {
            return STATE;
        }
        return register.tell(child, house, day);
    }

    public int fetch(int child, int day) {
        if (!isChild(child) || !isDay(day)) {
            return BAD;
        }
        int house = register.now[child];
        if (day < register.latest || house == NONE
                || rulingOf(OrderBook.FETCH, child, house, day) == -1) {
            return STATE;
        }
        return register.tell(child, NONE, day);
    }

    public int where(int child, int day) {
        if (!isChild(child) || !isDay(day)) {
            return BAD;
        }
        return register.placeOf(child, day);
    }

    public int paid(int house, int week) {
        if (!isHouse(house) || !within(week, 0, LAST_WEEK)) {
            return BAD;
        }
        int day = 7 * week;
        return payFor(houses.kind[house], register.inside(house, day),
                register.smallInside(children, house, day));
    }

    public int free(int house, int day) {
        if (!isHouse(house) || !isDay(day)) {
            return BAD;
        }
        return houses.beds[house] - register.inside(house, day);
    }

    public int trouble(int house) {
        if (!isHouse(house)) {
            return BAD;
        }
        return register.isTroubled(house) ? 1 : 0;
    }

    public int restless() {
        int many = 0;
        for (int c = 0; c < children.size; c++) {
            if (register.movesOf(c) >= 3) {
                many++;
            }
        }
        return many;
    }

    public int city(int day) {
        if (!isDay(day)) {
            return BAD;
        }
        int many = 0;
        for (int c = 0; c < children.size; c++) {
            if (register.placeOf(c, day) == NONE) {
                many++;
            }
        }
        return many;
    }

    // ---- torn labels, paths, lessons

    public int torn(long v, int n, int what) {
        if (!within(n, 1, MOST_LETTERS) || !within(what, 0, 2) || !isTorn(v, n)) {
            return BAD;
        }
        int many = 0;
        int least = NONE;
        for (int c = children.size - 1; c >= 0; c--) {
            if (children.fits(c, v, n)) {
                many++;
                least = c;
            }
        }
        return what == 0 ? many : what == 1 ? least : many < 2 ? NONE : nextQuestion(v, n);
    }

    public int paths(int what) {
        if (!within(what, 0, 1)) {
            return BAD;
        }
        routes.solve(children, platform, houses);
        return what == 0 ? routes.gone : routes.used;
    }

    public int lessons(int c, int r, int t, int h, int d, int i) {
        if (!within(c, 1, 9) || !within(r, 1, 9) || !within(t, 1, 9) || !within(h, 1, 10)
                || !within(d, 1, 30) || !within(i, 0, c - 1)) {
            return BAD;
        }
        // Fewest first, least number first, is a plain turn: the hours go round the classes.
        int taught = Math.min(c, Math.min(r, t)) * h * d;
        return taught / c + (i < taught % c ? 1 : 0);
    }

    public int count(int what) {
        switch (what) {
            case 0: return children.size;
            case 1: return houses.size;
            case 2: return book.size;
            case 3: return register.size;
            case 4: return draft.length;
            default: return BAD;
        }
    }

    public long trace() {
        return traced;
    }

    // ---- what the calls above share

    private static boolean within(int v, int least, int most) {
        return v >= least && v <= most;
    }

    private static boolean isParty(int party) {
        return within(party, 0, PARTIES - 1);
    }

    private static boolean isTrain(int train) {
        return within(train, 0, TRAINS - 1);
    }

    private static boolean isVillage(int village) {
        return within(village, 0, VILLAGES - 1);
    }

    private static boolean isDay(int day) {
        return within(day, 0, LAST_DAY);
    }

    private boolean isChild(int child) {
        return within(child, 0, children.size - 1);
    }

    private boolean isHouse(int house) {
        return within(house, 0, houses.size - 1);
    }

    private boolean canRule(int what, int child, int house, int day) {
        return within(what, OrderBook.LODGE, OrderBook.FETCH) && isChild(child) && isHouse(house) && isDay(day);
    }

    private int rulingOf(int what, int child, int house, int day) {
        int order = rulerOf(what, child, house, day);
        return order == NONE ? 0 : book.verdict[order];
    }

    private int rulerOf(int what, int child, int house, int day) {
        return book.ruler(what, children, child, houses, house, day, delays[houses.village[house]]);
    }

    private void boardAnew() {
        platform.stale = true;
        lodging.village = NONE;
    }

    private void assemble(int village) {
        platform.settle(children);
        meeting.gather(children, platform, village);
    }

    private static int payFor(int kind, int n, int k) {
        int sum = 60 * n;
        if (kind >= BILLET && n > 0) {
            sum += 24 + 12 * (n - 1);
        }
        if (kind >= HOSTEL) {
            sum += (sum + 9) / 10;
        }
        if (kind >= NURSERY) {
            sum += 30 * k;
        }
        return sum;
    }

    /** Each KIND asks the one over it, so all bodies from HOME down to it are asked once. */
    private static long bodiesAsked(int kind) {
        return kind == HOME ? 1 : kind == BILLET ? 11 : kind == HOSTEL ? 111 : 1111;
    }

    private static boolean isTorn(long v, int n) {
        for (int i = 0; i < n; i++) {
            int sign = (int) (v >>> (8 * i)) & 255;
            if (sign != '?' && !within(sign, 'a', 'z')) {
                return false;
            }
        }
        return true;
    }

    private int nextQuestion(long v, int n) {
        int next = NONE;
        int fewest = MOST_CHILDREN + 1;
        for (int q = 0; q < 4; q++) {
            int most = mostAlike(v, n, q);
            if (most < fewest) {
                fewest = most;
                next = q;
            }
        }
        return next;
    }

    private int mostAlike(long v, int n, int question) {
        Arrays.fill(tally, 0);
        int most = 0;
        for (int c = 0; c < children.size; c++) {
            if (children.fits(c, v, n)) {
                int answer = children.answer(c, question);
                tally[answer]++;
                most = Math.max(most, tally[answer]);
            }
        }
        return most;
    }

    /** The CHILDREN, by their numbers. A NAME is held as its letters in a long, the first one highest. */
    private static final class Children {
        private final int[] sex = new int[MOST_CHILDREN];
        private final int[] age = new int[MOST_CHILDREN];
        private final int[] kin = new int[MOST_CHILDREN];
        private final int[] group = new int[MOST_CHILDREN];
        private final long[] name = new long[MOST_CHILDREN];
        private final int[] letters = new int[MOST_CHILDREN];
        private int size = 0;

        int add(int itsSex, int itsAge, int itsKin, int itsParty) {
            sex[size] = itsSex;
            age[size] = itsAge;
            kin[size] = itsKin;
            group[size] = itsParty;
            size++;
            return size - 1;
        }

        int sortOf(int child) {
            return sex[child] + (isBig(child) ? 2 : 0);
        }

        boolean isBig(int child) {
            return age[child] >= 9;
        }

        boolean hasKin(int child) {
            return kin[child] != 0;
        }

        boolean areKin(int one, int other) {
            return one != other && kin[one] != 0 && kin[one] == kin[other];
        }

        boolean fits(int child, long torn, int n) {
            if (letters[child] != n) {
                return false;
            }
            for (int i = 0; i < n; i++) {
                int sign = (int) (torn >>> (8 * i)) & 255;
                int letter = (int) (name[child] >>> (8 * i)) & 255;
                if (sign != '?' && sign != letter) {
                    return false;
                }
            }
            return true;
        }

        int answer(int child, int question) {
            switch (question) {
                case 0: return sex[child];
                case 1: return isBig(child) ? 1 : 0;
                case 2: return hasKin(child) ? 1 : 0;
                default: return group[child];
            }
        }
    }

    /** THE DRAFT: bytes that wait to become a NAME or THE ORDERS. */
    private static final class Draft {
        private final int[] text = new int[MOST_TYPED];
        private int length = 0;

        void append(long v, int n) {
            for (int i = n - 1; i >= 0; i--) {
                text[length] = (int) (v >>> (8 * i)) & 255;
                length++;
            }
        }

        int empty() {
            int had = length;
            length = 0;
            return had;
        }

        boolean isName() {
            if (!within(length, 1, MOST_LETTERS)) {
                return false;
            }
            for (int i = 0; i < length; i++) {
                if (!within(text[i], 'a', 'z')) {
                    return false;
                }
            }
            return true;
        }

        long packed() {
            long all = 0;
            for (int i = 0; i < length; i++) {
                all = (all << 8) | text[i];
            }
            return all;
        }

        /** The byte at a place; NONE behind the last one. */
        int at(int place) {
            return place >= 0 && place < length ? text[place] : NONE;
        }
    }

    /** PARTIES, TRAINS and THE BOARDING, which is worked out anew only if something changed. */
    private static final class Platform {
        private static final int FROM = 0, UP_TO = 1, SEATS = 2, DOORS = 3, VILLAGE = 4;
        private static final int[] LEAST = {0, 0, 0, 1, 0};
        private static final int[] MOST = {LAST_MINUTE, LAST_MINUTE, MOST_CHILDREN, 4, VILLAGES - 1};
        private static final int HURRY = 5;

        private final int[] label = new int[PARTIES];
        private final int[] comes = new int[PARTIES];
        private final int[][] trains = new int[TRAINS][5];
        private final int[] seatsLeft = new int[TRAINS];
        private final int[] waiting = new int[MOST_CHILDREN];
        private final int[] trainOf = new int[MOST_CHILDREN];
        private final int[] minuteOf = new int[MOST_CHILDREN];
        private int waits = 0;
        private int way = 0;
        private boolean stale = true;

        Platform() {
            for (int t = 0; t < TRAINS; t++) {
                trains[t][DOORS] = 1;
            }
        }

        void settle(Children children) {
            if (!stale) {
                return;
            }
            stale = false;
            Arrays.fill(trainOf, NONE);
            Arrays.fill(minuteOf, NONE);
            waits = 0;
            for (int t = 0; t < TRAINS; t++) {
                seatsLeft[t] = trains[t][SEATS];
            }
            for (int minute = 0; minute <= LAST_MINUTE; minute++) {
                arrive(children, minute);
                for (int t = 0; t < TRAINS && waits > 0; t++) {
                    if (minute >= trains[t][FROM] && minute < trains[t][UP_TO]) {
                        fill(children, t, minute);
                    }
                }
            }
        }

        private void arrive(Children children, int minute) {
            for (int p = 0; p < PARTIES; p++) {
                for (int c = 0; comes[p] == minute && c < children.size; c++) {
                    if (children.group[c] == p) {
                        waiting[waits] = c;
                        waits++;
                    }
                }
            }
        }

        private void fill(Children children, int train, int minute) {
            boolean anyone = way == 0 || (way == 2 && minute >= trains[train][UP_TO] - HURRY);
            for (int door = 0; door < trains[train][DOORS] && seatsLeft[train] > 0; door++) {
                int place = anyone ? 0 : firstLabelled(children, train);
                if (place >= waits) {
                    return;
                }
                int child = waiting[place];
                trainOf[child] = train;
                minuteOf[child] = minute;
                seatsLeft[train]--;
                waits--;
                System.arraycopy(waiting, place + 1, waiting, place, waits - place);
            }
        }

        /** The place of the first who waits whose LABEL it is; how many wait, if there is none. */
        private int firstLabelled(Children children, int train) {
            for (int i = 0; i < waits; i++) {
                if (label[children.group[waiting[i]]] == train) {
                    return i;
                }
            }
            return waits;
        }

        int villageOf(int child) {
            return trainOf[child] == NONE ? NONE : trains[trainOf[child]][VILLAGE];
        }

        int mislaid(Children children) {
            int many = 0;
            for (int c = 0; c < children.size; c++) {
                if (trainOf[c] != NONE && trainOf[c] != label[children.group[c]]) {
                    many++;
                }
            }
            return many;
        }

        int carried(Children children, int train) {
            int many = 0;
            for (int p = 0; p < PARTIES; p++) {
                many += carriedOf(children, train, p);
            }
            return many;
        }

        int carriedOf(Children children, int train, int party) {
            int many = 0;
            for (int c = 0; c < children.size; c++) {
                if (trainOf[c] == train && children.group[c] == party) {
                    many++;
                }
            }
            return many;
        }
    }

    /** The HOUSES, by their numbers. */
    private static final class Houses {
        private final int[] village = new int[MOST_HOUSES];
        private final int[] kind = new int[MOST_HOUSES];
        private final int[] beds = new int[MOST_HOUSES];
        private final int[] takes = new int[MOST_HOUSES];
        private final int[] habit = new int[MOST_HOUSES];
        private int size = 0;

        int add(int itsVillage, int itsKind, int itsBeds, int itsTakes, int itsHabit) {
            village[size] = itsVillage;
            kind[size] = itsKind;
            beds[size] = itsBeds;
            takes[size] = itsTakes;
            habit[size] = itsHabit;
            size++;
            return size - 1;
        }

        boolean takesSort(int house, int sort) {
            return (takes[house] >> sort & 1) == 1;
        }

        int countIn(int place) {
            int many = 0;
            for (int h = 0; h < size; h++) {
                if (village[h] == place) {
                    many++;
                }
            }
            return many;
        }

        int bedsIn(int place) {
            int many = 0;
            for (int h = 0; h < size; h++) {
                if (village[h] == place) {
                    many += beds[h];
                }
            }
            return many;
        }
    }

    /** A HALL, and CHOOSING in it. */
    private static final class Hall {
        private final int[] member = new int[MOST_CHILDREN];
        private final int[] houseOf = new int[MOST_CHILDREN];
        private int size = 0;

        void gather(Children children, Platform platform, int village) {
            Arrays.fill(houseOf, NONE);
            size = 0;
            for (int c = 0; c < children.size; c++) {
                if (platform.villageOf(c) == village) {
                    member[size] = c;
                    size++;
                }
            }
        }

        void choose(Children children, Houses houses, int village) {
            for (int h = 0; h < houses.size; h++) {
                for (int bed = 0; houses.village[h] == village && bed < houses.beds[h]; bed++) {
                    int child = favourite(children, houses, h);
                    if (child == NONE) {
                        break;
                    }
                    houseOf[child] = h;
                }
            }
        }

        private int favourite(Children children, Houses houses, int house) {
            int best = NONE;
            int bestRank = 0;
            for (int i = 0; i < size; i++) {
                int child = member[i];
                if (houseOf[child] == NONE && houses.takesSort(house, children.sortOf(child))) {
                    int rank = rankOf(children, child, house, houses.habit[house]);
                    if (best == NONE || rank > bestRank) {
                        best = child;
                        bestRank = rank;
                    }
                }
            }
            return best;
        }

        private int rankOf(Children children, int child, int house, int habit) {
            switch (habit) {
                case 0: return children.age[child];
                case 1: return -children.age[child];
                case 3: return hasKinIn(children, child, house) ? 1 : 0;
                default: return 0;
            }
        }

        private boolean hasKinIn(Children children, int child, int house) {
            for (int i = 0; i < size; i++) {
                if (houseOf[member[i]] == house && children.areKin(child, member[i])) {
                    return true;
                }
            }
            return false;
        }

        int countOver() {
            int many = 0;
            for (int i = 0; i < size; i++) {
                if (houseOf[member[i]] == NONE) {
                    many++;
                }
            }
            return many;
        }

        int countParted(Children children) {
            int many = 0;
            for (int i = 0; i < size; i++) {
                for (int j = 0; j < i; j++) {
                    int house = houseOf[member[i]];
                    if (children.areKin(member[i], member[j])
                            && (house == NONE || house != houseOf[member[j]])) {
                        many++;
                    }
                }
            }
            return many;
        }
    }

    /**
     * BEST LODGING. A set of CHILDREN of the HALL is a row of bits; HOUSE by HOUSE it is worked out
     * how many two KIN can be together if just this set is lodged.
     */
    private static final class Lodging {
        private static final int SETS = 1 << MOST_LODGED;

        private final int[] kinOf = new int[MOST_LODGED];
        private final int[] takenBy = new int[MOST_LODGINGS];
        private final int[] bedsOf = new int[MOST_LODGINGS];
        private final int[] ofSort = new int[SORTS];
        private final int[] kept = new int[SETS];
        private int members = 0;
        private int homes = 0;
        private int village = NONE;
        private int over = 0;
        private int parted = 0;

        /** At most MOST_LODGED CHILDREN are in the HALL, at most MOST_LODGINGS HOUSES in the VILLAGE. */
        void solve(Children children, Houses houses, Hall hall, int place) {
            village = place;
            members = Math.min(hall.size, MOST_LODGED);
            noteChildren(children, hall);
            noteHouses(houses, place);
            int lodged = mostLodged();
            int pairs = countPairs();
            over = members - lodged;
            parted = pairs == 0 ? 0 : pairs - mostTogether(lodged, pairs);
        }

        private void noteChildren(Children children, Hall hall) {
            Arrays.fill(ofSort, 0);
            for (int i = 0; i < members; i++) {
                ofSort[children.sortOf(hall.member[i])] |= 1 << i;
                kinOf[i] = 0;
                for (int j = 0; j < members; j++) {
                    if (children.areKin(hall.member[i], hall.member[j])) {
                        kinOf[i] |= 1 << j;
                    }
                }
            }
        }

        private void noteHouses(Houses houses, int place) {
            homes = 0;
            for (int h = 0; h < houses.size && homes < MOST_LODGINGS; h++) {
                if (houses.village[h] == place) {
                    bedsOf[homes] = houses.beds[h];
                    takenBy[homes] = 0;
                    for (int s = 0; s < SORTS; s++) {
                        takenBy[homes] |= houses.takesSort(h, s) ? ofSort[s] : 0;
                    }
                    homes++;
                }
            }
        }

        private int countPairs() {
            int twice = 0;
            for (int i = 0; i < members; i++) {
                twice += Integer.bitCount(kinOf[i]);
            }
            return twice / 2;
        }

        /**
         * The narrowest cut: whatever SORTS are picked, of these no more can be lodged than the
         * HOUSES that TAKE any of them have BEDS; and the least of all such bounds can be reached.
         */
        private int mostLodged() {
            int least = members;
            for (int picked = 0; picked < 1 << SORTS; picked++) {
                int set = 0;
                for (int s = 0; s < SORTS; s++) {
                    set |= (picked >> s & 1) == 1 ? ofSort[s] : 0;
                }
                int bound = members - Integer.bitCount(set);
                for (int h = 0; h < homes; h++) {
                    bound += (takenBy[h] & set) != 0 ? bedsOf[h] : 0;
                }
                least = Math.min(least, bound);
            }
            return least;
        }

        private int mostTogether(int lodged, int pairs) {
            int sets = 1 << members;
            Arrays.fill(kept, NONE);
            kept[0] = 0;
            int bedsSoFar = 0;
            int bedsToCome = 0;
            for (int h = 0; h < homes; h++) {
                bedsToCome += bedsOf[h];
            }
            for (int h = 0; h < homes; h++) {
                bedsSoFar += bedsOf[h];
                bedsToCome -= bedsOf[h];
                // Greater sets first: each is made of lesser ones as they were without this HOUSE.
                for (int set = sets - 1; set > 0; set--) {
                    int many = Integer.bitCount(set);
                    if (many <= Math.min(bedsSoFar, lodged) && many + bedsToCome >= lodged) {
                        kept[set] = keptWith(this, set, set & takenBy[h], 0, 0, bedsOf[h]);
                        if (many == lodged && kept[set] == pairs) {
                            return pairs;
                        }
                    }
                }
            }
            int most = 0;
            for (int set = 0; set < sets; set++) {
                if (Integer.bitCount(set) == lodged) {
                    most = Math.max(most, kept[set]);
                }
            }
            return most;
        }

        /**
         * The most two KIN together in a set if one HOUSE gets those inside, of whom so many two are
         * KIN, and up to so many BEDS (4 at most) more of those open to it.
         */
        private static int keptWith(Lodging l, int set, int open, int inside, int pairs, int beds) {
            int before = l.kept[set ^ inside];
            int most = before < 0 ? NONE : before + pairs;
            int rest = beds > 0 ? open : 0;
            for (int k = 0; k < l.members && rest != 0; k++) {
                int i = Integer.numberOfTrailingZeros(rest);
                rest &= rest - 1;
                int more = pairs + Integer.bitCount(l.kinOf[i] & inside);
                most = Math.max(most, keptWith(l, set, rest, inside | 1 << i, more, beds - 1));
            }
            return most;
        }
    }

    /** THE ORDERS as they were read, and which of them rules. */
    private static final class OrderBook {
        private static final int LODGE = 0, MOVE = 1, FETCH = 2;
        private static final int IS_SEX = 0, IS_BELOW = 1, HAS_KIN = 2, IS_KIND = 3, IS_VILLAGE = 4, IS_ABOVE = 5;

        private final int[] body = new int[MOST_ORDERS];
        private final int[] day = new int[MOST_ORDERS];
        private final int[] verdict = new int[MOST_ORDERS];
        private final int[] deed = new int[MOST_ORDERS];
        private final int[] conds = new int[MOST_ORDERS];
        private final int[] condWhat = new int[MOST_ORDERS * MOST_CONDS];
        private final int[] condValue = new int[MOST_ORDERS * MOST_CONDS];
        private final boolean[] condNot = new boolean[MOST_ORDERS * MOST_CONDS];
        private int size = 0;

        /** The ORDER by which it is ruled, with the DELAYS of the HOUSE's VILLAGE; NONE. */
        int ruler(int what, Children children, int child, Houses houses, int house, int onDay, int[] late) {
            int best = NONE;
            for (int o = 0; o < size; o++) {
                if (deed[o] == what && day[o] + late[body[o]] <= onDay && holds(o, children, child, houses, house)
                        && (best == NONE || body[o] < body[best]
                        || (body[o] == body[best] && day[o] >= day[best]))) {
                    best = o;
                }
            }
            return best;
        }

        private boolean holds(int order, Children children, int child, Houses houses, int house) {
            for (int i = 0; i < conds[order]; i++) {
                int cond = order * MOST_CONDS + i;
                if (isSo(cond, children, child, houses, house) == condNot[cond]) {
                    return false;
                }
            }
            return true;
        }

        private boolean isSo(int cond, Children children, int child, Houses houses, int house) {
            int value = condValue[cond];
            switch (condWhat[cond]) {
                case IS_SEX: return children.sex[child] == value;
                case IS_BELOW: return children.age[child] < value;
                case HAS_KIN: return children.hasKin(child);
                case IS_KIND: return houses.kind[house] == value;
                case IS_VILLAGE: return houses.village[house] == value;
                default: return children.age[child] > value;
            }
        }
    }

    /** Reads THE DRAFT as ORDERS; where it stops, there is the FAULT. */
    private static final class OrderReader {
        private static final String BODY_SIGNS = "mcp", VERDICT_SIGNS = "-=+", DEED_SIGNS = "lvf";
        // In the order of OrderBook's numbers for what a COND asks; IS_ABOVE begins with IS_BELOW's sign.
        private static final String COND_SIGNS = "sakhw";
        private static final int[] MOST_VALUE = {1, 15, 0, NURSERY, VILLAGES - 1};

        private int at = 0;

        /** NONE if the text can stand as it is, else its FAULT. */
        int read(Draft draft, OrderBook into) {
            at = 0;
            into.size = 0;
            for (int i = 0; i <= MOST_ORDERS && at < draft.length; i++) {
                if (!readOrder(draft, into)) {
                    return at;
                }
            }
            return NONE;
        }

        private boolean readOrder(Draft draft, OrderBook into) {
            int order = into.size;
            if (order >= MOST_ORDERS) {
                return false;
            }
            into.body[order] = readSign(draft, BODY_SIGNS);
            if (into.body[order] < 0) {
                return false;
            }
            into.day[order] = readNumber(draft, 99);
            if (into.day[order] < 0 || readSign(draft, ":") < 0) {
                return false;
            }
            int verdict = readSign(draft, VERDICT_SIGNS);
            if (verdict < 0) {
                return false;
            }
            into.verdict[order] = verdict - 1;
            into.deed[order] = readSign(draft, DEED_SIGNS);
            if (into.deed[order] < 0 || !readConds(draft, into, order)) {
                return false;
            }
            into.size++;
            return true;
        }

        private boolean readConds(Draft draft, OrderBook into, int order) {
            into.conds[order] = 0;
            for (int i = 0; i < MOST_CONDS; i++) {
                if (draft.at(at) == ';') {
                    break;
                }
                if (!readCond(draft, into, order * MOST_CONDS + i)) {
                    return false;
                }
                into.conds[order]++;
            }
            return readSign(draft, ";") >= 0;
        }

        private boolean readCond(Draft draft, OrderBook into, int cond) {
            into.condNot[cond] = readSign(draft, "!") >= 0;
            int what = readSign(draft, COND_SIGNS);
            if (what < 0) {
                return false;
            }
            int side = what == OrderBook.IS_BELOW ? readSign(draft, "<>") : 0;
            if (side < 0) {
                return false;
            }
            into.condWhat[cond] = side == 0 ? what : OrderBook.IS_ABOVE;
            into.condValue[cond] = what == OrderBook.HAS_KIN ? 0 : readNumber(draft, MOST_VALUE[what]);
            return into.condValue[cond] >= 0;
        }

        /** Which of the signs stands here, and goes behind it; NONE, and stays, if none of them does. */
        private int readSign(Draft draft, String signs) {
            for (int i = 0; i < signs.length(); i++) {
                if (draft.at(at) == signs.charAt(i)) {
                    at++;
                    return i;
                }
            }
            return NONE;
        }

        /** A number 0 .. most (99 at most); NONE, and stays at the FAULT, if none stands here. */
        private int readNumber(Draft draft, int most) {
            int value = draft.at(at) - '0';
            if (!within(value, 0, Math.min(most, 9))) {
                return NONE;
            }
            at++;
            for (int i = 0; i < 2; i++) {
                int digit = draft.at(at) - '0';
                if (!within(digit, 0, 9)) {
                    return value;
                }
                if (value == 0 || value * 10 + digit > most) {
                    return NONE;
                }
                value = value * 10 + digit;
                at++;
            }
            return value;
        }
    }

    /** EVENTS, and what follows from them. */
    private static final class Register {
        private static final int SMALL = 5, LEAVINGS = 4, LEAVING_DAYS = 27;

        private final int[] who = new int[MOST_EVENTS];
        private final int[] from = new int[MOST_EVENTS];
        private final int[] into = new int[MOST_EVENTS];
        private final int[] day = new int[MOST_EVENTS];
        private final int[] now = new int[MOST_CHILDREN];
        private final int[] leftOn = new int[MOST_EVENTS];
        private int size = 0;
        private int latest = 0;

        Register() {
            Arrays.fill(now, NONE);
        }

        int tell(int child, int place, int onDay) {
            if (size >= MOST_EVENTS) {
                return FULL;
            }
            who[size] = child;
            from[size] = now[child];
            into[size] = place;
            day[size] = onDay;
            now[child] = place;
            latest = onDay;
            size++;
            return size;
        }

        int placeOf(int child, int onDay) {
            int place = NONE;
            for (int e = 0; e < size && day[e] <= onDay; e++) {
                if (who[e] == child) {
                    place = into[e];
                }
            }
            return place;
        }

        int inside(int house, int onDay) {
            int many = 0;
            for (int e = 0; e < size && day[e] <= onDay; e++) {
                many += (into[e] == house ? 1 : 0) - (from[e] == house ? 1 : 0);
            }
            return many;
        }

        int smallInside(Children children, int house, int onDay) {
            int many = 0;
            for (int e = 0; e < size && day[e] <= onDay; e++) {
                if (children.age[who[e]] < SMALL) {
                    many += (into[e] == house ? 1 : 0) - (from[e] == house ? 1 : 0);
                }
            }
            return many;
        }

        boolean isTroubled(int house) {
            int left = 0;
            for (int e = 0; e < size; e++) {
                if (from[e] == house) {
                    leftOn[left] = day[e];
                    left++;
                    if (left >= LEAVINGS && day[e] - leftOn[left - LEAVINGS] <= LEAVING_DAYS) {
                        return true;
                    }
                }
            }
            return false;
        }

        int movesOf(int child) {
            int many = 0;
            for (int e = 0; e < size; e++) {
                if (who[e] == child && from[e] != NONE && into[e] != NONE) {
                    many++;
                }
            }
            return many;
        }
    }

    /** BEST PATHS. A set of PARTIES is a row of bits; TRAIN by TRAIN the fewest that can bring it. */
    private static final class Paths {
        private static final int SETS = 1 << PARTIES;

        private final int[] people = new int[SETS];
        private final int[] fewest = new int[SETS];
        private int gone = 0;
        private int used = 0;

        void solve(Children children, Platform platform, Houses houses) {
            countPeople(children);
            Arrays.fill(fewest, NONE);
            fewest[0] = 0;
            for (int village = 0; village < VILLAGES; village++) {
                bring(roomTo(platform, houses, village));
            }
            gone = 0;
            used = 0;
            for (int set = 1; set < SETS; set++) {
                if (fewest[set] >= 0
                        && (people[set] > gone || (people[set] == gone && fewest[set] < used))) {
                    gone = people[set];
                    used = fewest[set];
                }
            }
        }

        private void countPeople(Children children) {
            Arrays.fill(people, 0);
            for (int c = 0; c < children.size; c++) {
                people[1 << children.group[c]]++;
            }
            for (int set = 1; set < SETS; set++) {
                int rest = set & (set - 1);
                people[set] = people[rest] + people[set ^ rest];
            }
        }

        /** Of TRAINS to one VILLAGE only one may go, and the roomiest can bring all that another can. */
        private static int roomTo(Platform platform, Houses houses, int village) {
            int seats = 0;
            for (int t = 0; t < TRAINS; t++) {
                if (platform.trains[t][Platform.VILLAGE] == village) {
                    seats = Math.max(seats, platform.trains[t][Platform.SEATS]);
                }
            }
            return Math.min(seats, houses.bedsIn(village));
        }

        private void bring(int room) {
            for (int set = SETS - 1; set > 0; set--) {
                int part = set;
                for (int i = 0; i < SETS && part != 0; i++) {
                    int before = fewest[set ^ part];
                    if (people[part] <= room && before >= 0
                            && (fewest[set] < 0 || before + 1 < fewest[set])) {
                        fewest[set] = before + 1;
                    }
                    part = (part - 1) & set;
                }
            }
        }
    }
}
