/** Of each number that a call is given: the least and the greatest allowed, and those beyond, which change nothing. */
public final class EdgeBoundsTest {
    private static final int CHILDREN = 6, HOUSES = 3;

    interface Call {
        long of(ChildTrains x, int[] a);
    }

    /** The call's number at a place may be least .. most; the other ones are as given. */
    private static void bounds(String words, Call call, int place, int least, int most, int... given) {
        Edge.sentence(words, () -> {
            long bad = words.startsWith("ruling") ? -5 : Edge.BAD;
            for (int v : new int[] {least, most}) {
                long got = ask(call, place, v, given).of(Edge.made(Edge::world));
                Edge.due(0, got == bad ? 1 : 0, "with " + v);
            }
            // A number that wraps around as a byte, a short or with its sign is beyond, too.
            int[] beyond = {least - 1, most + 1, Edge.LOW, Edge.HIGH, least + 256, least - 256, least + 65536,
                least - 65536, least ^ Edge.LOW, most ^ Edge.LOW, Edge.LOW + 1, Edge.HIGH - 1};
            for (int v : beyond) {
                boolean told = v >= least && v <= most || words.startsWith("load: TRAIN") && v == Edge.NONE;
                if (!told) {
                    Edge.refused(bad, Edge::world, ask(call, place, v, given));
                }
            }
        });
    }

    private static Edge.Ask ask(Call call, int place, int v, int[] given) {
        int[] a = given.clone();
        a[place] = v;
        return x -> call.of(x, a);
    }

    private static void childrenAndTrains() {
        Call child = (x, a) -> x.child(a[0], a[1], a[2], a[3]);
        bounds("child: a SEX 0, 1", child, 0, 0, 1, 0, 5, 3, 4);
        bounds("child: an AGE 1 .. 15", child, 1, 1, 15, 0, 5, 3, 4);
        bounds("child: KIN 0 .. 20", child, 2, 0, 20, 0, 5, 3, 4);
        bounds("child: a PARTY 0 .. 7", child, 3, 0, 7, 0, 5, 3, 4);
        bounds("type: n (1 .. 8) bytes", (x, a) -> x.type(Edge.bytes("abcdefgh"), a[0]), 0, 1, 8, 1);
        bounds("name: there is no such CHILD", (x, a) -> x.name(a[0]), 0, 0, CHILDREN - 1, 0);
        Call party = (x, a) -> x.party(a[0], a[1], a[2]);
        bounds("party: a PARTY 0 .. 7 (LABEL)", party, 0, 0, 7, 0, 0, 1);
        bounds("party: a PARTY 0 .. 7 (MINUTE)", party, 0, 0, 7, 0, 1, 1);
        bounds("party: LABEL (what = 0), MINUTE (1)", party, 1, 0, 1, 1, 0, 1);
        bounds("party: a LABEL (a TRAIN 0 .. 5)", party, 2, 0, 5, 1, 0, 1);
        bounds("party: the MINUTE 0 .. 300", party, 2, 0, 300, 1, 1, 1);
        Call train = (x, a) -> x.train(a[0], a[1], a[2]);
        for (int what = 0; what < 5; what++) {
            bounds("train: TRAINS 0 .. 5, what = " + what, train, 0, 0, 5, 0, what, 4);
        }
        bounds("train: from (what = 0) .. VILLAGE (4)", train, 1, 0, 4, 0, 0, 1);
        bounds("train: stand there from a MINUTE (0 .. 300)", train, 2, 0, 300, 0, 0, 1);
        bounds("train: up to another one (0 .. 300)", train, 2, 0, 300, 0, 1, 1);
        bounds("train: SEATS 0 .. 48", train, 2, 0, 48, 0, 2, 1);
        bounds("train: DOORS 1 .. 4", train, 2, 1, 4, 0, 3, 1);
        bounds("train: a VILLAGE 0 .. 5", train, 2, 0, 5, 0, 4, 1);
        bounds("wayOf: a WAY 0, 1, 2", (x, a) -> x.wayOf(a[0]), 0, 0, 2, 0);
        Call boarded = (x, a) -> x.boarded(a[0], a[1]);
        bounds("boarded: there is no such CHILD", boarded, 0, 0, CHILDREN - 1, 0, 0);
        bounds("boarded: its TRAIN (what = 0), the MINUTE (1), VILLAGE (2)", boarded, 1, 0, 2, 0, 0);
        bounds("mixed: MIXED (what = 0), LEFT (1), in all (2)", (x, a) -> x.mixed(a[0]), 0, 0, 2, 0);
        Call load = (x, a) -> x.load(a[0], a[1]);
        bounds("load: TRAINS 0 .. 5 (NONE: in none)", load, 0, 0, 5, 0, 0);
        bounds("load: TRAIN NONE and those about it", load, 0, Edge.NONE, Edge.NONE, 0, 0);
        bounds("load: a PARTY 0 .. 7", load, 1, 0, 7, 0, 0);
        bounds("load: a PARTY 0 .. 7 (in none)", load, 1, 0, 7, Edge.NONE, 0);
    }

    private static void housesAndHalls() {
        Call house = (x, a) -> x.house(a[0], a[1], a[2], a[3], a[4]);
        bounds("house: lie in a VILLAGE 0 .. 5", house, 0, 0, 5, 1, 2, 2, 5, 1);
        bounds("house: BAD: KIND 1 .. 3", house, 1, 1, 3, 1, 2, 2, 5, 1);
        bounds("house: BEDS 1 .. 4", house, 2, 1, 4, 1, 2, 2, 5, 1);
        bounds("house: TAKE SORTS (bits 0 .. 3)", house, 3, 0, 15, 1, 2, 2, 5, 1);
        bounds("house: a HABIT 0 .. 3", house, 4, 0, 3, 1, 2, 2, 5, 1);
        Call pay = (x, a) -> x.pay(a[0], a[1], a[2]);
        bounds("pay: KINDS 0 .. 3", pay, 0, 0, 3, 0, 3, 2);
        for (int kind = 0; kind < 4; kind++) {
            bounds("pay: BAD: n 0 .. 9, KIND " + kind, pay, 1, 0, 9, kind, 3, 0);
            bounds("pay: BAD: k 0 .. n, n = 0, KIND " + kind, pay, 2, 0, 0, kind, 0, 0);
            bounds("pay: BAD: k 0 .. n, n = 4, KIND " + kind, pay, 2, 0, 4, kind, 4, 0);
            bounds("pay: BAD: k 0 .. n, n = 9, KIND " + kind, pay, 2, 0, 9, kind, 9, 0);
        }
        bounds("pay: n is at least k", pay, 1, 5, 9, 3, 5, 5);
        Call hall = (x, a) -> x.hall(a[0], a[1]);
        bounds("hall: a VILLAGE 0 .. 5", hall, 0, 0, 5, 0, 0);
        bounds("hall: how many CHILDREN (what = 0), OVER (1), PARTED (2)", hall, 1, 0, 2, 1, 0);
        bounds("chosen: there is no such CHILD", (x, a) -> x.chosen(a[0]), 0, 0, CHILDREN - 1, 0);
        Call best = (x, a) -> x.best(a[0], a[1]);
        bounds("best: a VILLAGE 0 .. 5", best, 0, 0, 5, 0, 0);
        bounds("best: OVER (what = 0), PARTED (1)", best, 1, 0, 1, 1, 0);
    }

    private static void ordersAndDays() {
        Call delay = (x, a) -> x.delay(a[0], a[1], a[2]);
        bounds("delay: a VILLAGE 0 .. 5", delay, 0, 0, 5, 0, 0, 7);
        bounds("delay: MINISTRY (0), COUNTY (1), PARISH (2)", delay, 1, 0, 2, 1, 0, 7);
        bounds("delay: 0 .. 20 DAYS", delay, 2, 0, 20, 1, 0, 7);
        Call[] calls = {(x, a) -> x.ruling(a[0], a[1], a[2], a[3]), (x, a) -> x.why(a[0], a[1], a[2], a[3])};
        String[] names = {"ruling", "why"};
        for (int i = 0; i < 2; i++) {
            bounds(names[i] + ": 0 lodge, 1 move, 2 fetch", calls[i], 0, 0, 2, 0, 0, 0, 0);
            bounds(names[i] + ": there is no such CHILD", calls[i], 1, 0, CHILDREN - 1, 0, 0, 0, 0);
            bounds(names[i] + ": there is no such HOUSE", calls[i], 2, 0, HOUSES - 1, 0, 0, 0, 0);
            bounds(names[i] + ": on a DAY (0 .. 199)", calls[i], 3, 0, 199, 0, 0, 0, 0);
        }
        Call lodge = (x, a) -> x.lodge(a[0], a[1], a[2]);
        bounds("lodge: there is no such CHILD", lodge, 0, 0, CHILDREN - 1, 4, 1, 6);
        bounds("lodge: there is no such HOUSE", lodge, 1, 0, HOUSES - 1, 4, 1, 6);
        bounds("lodge: from a DAY (0 .. 199) on", lodge, 2, 0, 199, 4, 1, 6);
        Call fetch = (x, a) -> x.fetch(a[0], a[1]);
        bounds("fetch: there is no such CHILD", fetch, 0, 0, CHILDREN - 1, 0, 6);
        bounds("fetch: a DAY (0 .. 199)", fetch, 1, 0, 199, 0, 6);
        Call where = (x, a) -> x.where(a[0], a[1]);
        bounds("where: there is no such CHILD", where, 0, 0, CHILDREN - 1, 0, 6);
        bounds("where: a DAY (0 .. 199)", where, 1, 0, 199, 0, 6);
        Call paid = (x, a) -> x.paid(a[0], a[1]);
        bounds("paid: there is no such HOUSE", paid, 0, 0, HOUSES - 1, 0, 1);
        bounds("paid: a week w (w 0 .. 27)", paid, 1, 0, 27, 0, 1);
        Call free = (x, a) -> x.free(a[0], a[1]);
        bounds("free: there is no such HOUSE", free, 0, 0, HOUSES - 1, 0, 1);
        bounds("free: a DAY (0 .. 199)", free, 1, 0, 199, 0, 1);
        bounds("trouble: there is no such HOUSE", (x, a) -> x.trouble(a[0]), 0, 0, HOUSES - 1, 0);
        bounds("city: a DAY (0 .. 199)", (x, a) -> x.city(a[0]), 0, 0, 199, 0);
        Edge.sentence("paid: seven times the week wraps around to a DAY", () -> {
            for (int week : new int[] {613566757, 1227133514, -613566756, 1 << 30, 1 << 31}) {
                Edge.refused(Edge.BAD, Edge::world, x -> x.paid(0, week));
            }
        });
    }

    private static void tornPathsLessons() {
        long signs = Edge.bytes("????????");
        bounds("torn: the lowest n of 1 .. 8 bytes", (x, a) -> x.torn(signs, a[0], a[1]), 0, 1, 8, 4, 0);
        bounds("torn: CANDIDATES (what = 0), least (1), QUESTION (2)", (x, a) -> x.torn(signs, a[0], a[1]), 1, 0, 2, 4, 0);
        bounds("paths: CHILDREN (what = 0), TRAINS (1)", (x, a) -> x.paths(a[0]), 0, 0, 1, 0);
        Call lessons = (x, a) -> x.lessons(a[0], a[1], a[2], a[3], a[4], a[5]);
        bounds("lessons: c CLASSES (1 .. 9)", lessons, 0, 1, 9, 3, 2, 2, 4, 5, 0);
        bounds("lessons: r ROOMS (1 .. 9)", lessons, 1, 1, 9, 3, 2, 2, 4, 5, 0);
        bounds("lessons: t TEACHERS (1 .. 9)", lessons, 2, 1, 9, 3, 2, 2, 4, 5, 0);
        bounds("lessons: h HOURS a DAY (1 .. 10)", lessons, 3, 1, 10, 3, 2, 2, 4, 5, 0);
        bounds("lessons: d DAYS (1 .. 30)", lessons, 4, 1, 30, 3, 2, 2, 4, 5, 0);
        for (int c = 1; c <= 9; c++) {
            bounds("lessons: CLASS i of " + c, lessons, 5, 0, c - 1, c, 2, 2, 4, 5, 0);
        }
        bounds("lessons: c is above i", lessons, 0, 5, 9, 5, 2, 2, 4, 5, 4);
        bounds("count: 0 CHILDREN .. 4 bytes of THE DRAFT", (x, a) -> x.count(a[0]), 0, 0, 4, 0);
    }

    public static void main(String[] args) {
        childrenAndTrains();
        housesAndHalls();
        ordersAndDays();
        tornPathsLessons();
        Edge.end();
    }
}
