/** For each promise of the document: ordinary inputs, its edges and wrong inputs. */
public final class PromiseTest {
    private static final int BAD = -1, STATE = -2, FULL = -3, NONE = -9;
    private static final int LOW = Integer.MIN_VALUE, HIGH = Integer.MAX_VALUE;
    private static int wrong = 0;
    private static int promise = 0;

    private static void due(long want, long got) {
        if (got != want) {
            wrong++;
            int line = StackWalker.getInstance().walk(s -> s.skip(1)
                .filter(f -> !f.getMethodName().equals("due")).findFirst().get().getLineNumber());
            System.out.println("promise " + promise + ", line " + line + ": answered " + got + ", due is " + want);
        }
    }

    private static void start(int number) {
        promise = number;
    }

    /** Types a text of characters 0 to 255 into THE DRAFT. */
    private static void type(ChildTrains x, String text) {
        for (int i = 0; i < text.length(); i += 8) {
            String part = text.substring(i, Math.min(text.length(), i + 8));
            x.type(bytes(part), part.length());
        }
    }

    private static long bytes(String text) {
        long v = 0;
        for (char c : text.toCharArray()) {
            v = v << 8 | c;
        }
        return v;
    }

    private static int orders(ChildTrains x, String text) {
        x.clear();
        type(x, text);
        return x.orders();
    }

    private static void name(ChildTrains x, int child, String name) {
        x.clear();
        type(x, name);
        due(name.length(), x.name(child));
    }

    private static void children(ChildTrains x, int many, int sex, int age, int kin, int party) {
        for (int i = 0; i < many; i++) {
            x.child(sex, age, kin, party);
        }
    }

    /** A train that stands all day with room for all, to a village. */
    private static void train(ChildTrains x, int train, int village) {
        x.train(train, 0, 0);
        x.train(train, 1, 300);
        x.train(train, 2, 48);
        x.train(train, 4, village);
    }

    private static void newObject() {
        start(1);
        ChildTrains x = new ChildTrains();
        for (int what = 0; what < 5; what++) {
            due(0, x.count(what));
        }
        due(0, x.trace());
        due(BAD, x.boarded(0, 0));
        due(BAD, x.trouble(0));
        due(0, x.wayOf(0));
        due(0, x.paths(0));
        due(0, x.paths(1));
        due(0, x.city(0));
        for (int p = 0; p < 8; p++) {
            due(0, x.party(p, 0, 0));
            due(0, x.party(p, 1, 0));
        }
        for (int t = 0; t < 6; t++) {
            for (int what = 0; what < 5; what++) {
                due(what == 3 ? 1 : 0, x.train(t, what, 1));
            }
        }
        for (int v = 0; v < 6; v++) {
            for (int of = 0; of < 3; of++) {
                due(0, x.delay(v, of, 0));
            }
        }
        ChildTrains other = new ChildTrains();
        other.child(0, 1, 0, 0);
        due(0, x.count(0));
    }

    private static void child() {
        start(2);
        ChildTrains x = new ChildTrains();
        due(0, x.child(0, 1, 0, 0));
        due(1, x.child(1, 15, 20, 7));
        int[][] bad = {{-1, 1, 0, 0}, {2, 1, 0, 0}, {0, 0, 0, 0}, {0, 16, 0, 0}, {0, 1, -1, 0}, {0, 1, 21, 0},
            {0, 1, 0, -1}, {0, 1, 0, 8}, {LOW, 1, 0, 0}, {0, HIGH, 0, 0}, {0, 1, LOW, 0}, {0, 1, 0, HIGH}};
        for (int[] b : bad) {
            due(BAD, x.child(b[0], b[1], b[2], b[3]));
        }
        due(2, x.count(0));
        for (int i = 2; i < 48; i++) {
            due(i, x.child(i % 2, 5, 3, 1));
        }
        due(FULL, x.child(0, 1, 0, 0));
        due(BAD, x.child(0, 0, 0, 0));
        due(48, x.count(0));
    }

    private static void typing() {
        start(3);
        ChildTrains x = new ChildTrains();
        due(BAD, x.type(5, 0));
        due(BAD, x.type(5, 9));
        due(BAD, x.type(5, LOW));
        due(BAD, x.type(5, HIGH));
        due(0, x.count(4));
        x.child(0, 1, 0, 0);
        due(2, x.type(bytes("zzzabcab"), 2));
        due(3, x.type(-256 | 'c', 1));
        due(3, x.name(0));
        due(1, x.torn(bytes("abc"), 3, 0));
        due(8, x.type(-1, 8));
        for (int n = 16; n <= 592; n += 8) {
            due(n, x.type(0, 8));
        }
        due(599, x.type(0, 7));
        due(FULL, x.type(0, 2));
        due(599, x.count(4));
        due(600, x.type(0, 1));
        due(FULL, x.type(0, 1));
        due(BAD, x.type(0, 0));
        due(600, x.count(4));

        start(4);
        due(600, x.clear());
        due(0, x.clear());
        due(0, x.count(4));
        due(1, x.type(0, 1));
        due(1, x.clear());
    }

    private static void naming() {
        start(5);
        ChildTrains x = new ChildTrains();
        type(x, "ab");
        due(BAD, x.name(0));
        due(2, x.count(4));
        x.child(0, 1, 0, 0);
        due(BAD, x.name(1));
        due(BAD, x.name(-1));
        due(2, x.name(0));
        due(0, x.count(4));
        due(STATE, x.name(0));
        due(1, x.torn(bytes("ab"), 2, 0));
        for (String none : new String[] {"a`", "{b", "aB", "a?", "a ", "a\u00e1", "a\u0000"}) {
            type(x, none);
            due(STATE, x.name(0));
            due(2, x.clear());
        }
        type(x, "abcdefghi");
        due(STATE, x.name(0));
        due(BAD, x.name(1));
        due(9, x.clear());
        due(1, x.torn(bytes("ab"), 2, 0));
        name(x, 0, "azbycxdw");
        due(0, x.torn(bytes("ab"), 2, 0));
        due(1, x.torn(bytes("azbycxdw"), 8, 0));
        name(x, 0, "z");
        due(1, x.torn(bytes("z"), 1, 0));
        name(x, 0, "a");
        due(1, x.torn(bytes("?"), 1, 0));
    }

    private static void partyAndTrain() {
        start(6);
        ChildTrains x = new ChildTrains();
        due(0, x.party(0, 0, 5));
        due(5, x.party(0, 0, 2));
        due(2, x.party(0, 0, 2));
        due(0, x.party(7, 1, 300));
        due(300, x.party(7, 1, 0));
        int[][] bad = {{-1, 0, 0}, {8, 0, 0}, {0, -1, 0}, {0, 2, 0}, {0, 0, -1}, {0, 0, 6}, {0, 1, -1}, {0, 1, 301},
            {LOW, 0, 0}, {0, HIGH, 0}, {0, 1, HIGH}};
        for (int[] b : bad) {
            due(BAD, x.party(b[0], b[1], b[2]));
        }
        due(2, x.party(0, 0, 0));
        due(0, x.party(0, 1, 1));
        due(0, x.party(1, 0, 1));

        start(7);
        int[] least = {0, 0, 0, 1, 0};
        int[] most = {300, 300, 48, 4, 5};
        for (int t = 0; t < 6; t++) {
            for (int what = 0; what < 5; what++) {
                due(least[what], x.train(t, what, most[what]));
                due(BAD, x.train(t, what, most[what] + 1));
                due(BAD, x.train(t, what, least[what] - 1));
                due(most[what], x.train(t, what, least[what]));
                due(least[what], x.train(t, what, least[what]));
            }
        }
        due(BAD, x.train(-1, 0, 0));
        due(BAD, x.train(6, 0, 0));
        due(BAD, x.train(0, -1, 0));
        due(BAD, x.train(0, 5, 0));
        due(BAD, x.train(HIGH, LOW, 0));

        start(8);
        due(0, x.wayOf(2));
        due(2, x.wayOf(1));
        due(BAD, x.wayOf(3));
        due(BAD, x.wayOf(-1));
        due(1, x.wayOf(0));
        due(0, x.wayOf(0));
    }

    private static void boarding() {
        start(9);
        ChildTrains x = new ChildTrains();
        children(x, 1, 0, 5, 0, 1);
        children(x, 2, 0, 5, 0, 0);
        children(x, 1, 0, 5, 0, 2);
        x.party(2, 0, 1);
        x.train(0, 0, 10);
        x.train(0, 1, 12);
        x.train(0, 2, 48);
        x.train(0, 4, 5);
        int[] minutes = {NONE, 10, 11, NONE};
        for (int c = 0; c < 4; c++) {
            due(minutes[c] == NONE ? NONE : 0, x.boarded(c, 0));
            due(minutes[c], x.boarded(c, 1));
            due(minutes[c] == NONE ? NONE : 5, x.boarded(c, 2));
        }
        x.train(0, 3, 2);
        due(10, x.boarded(2, 1));
        due(11, x.boarded(0, 1));
        due(11, x.boarded(3, 1));
        x.train(0, 2, 3);
        due(NONE, x.boarded(3, 0));
        x.party(2, 1, 0);
        x.party(0, 1, 9);
        x.party(1, 1, 10);
        due(10, x.boarded(3, 1));
        due(10, x.boarded(1, 1));
        due(11, x.boarded(2, 1));
        due(NONE, x.boarded(0, 1));
        x.train(0, 1, 10);
        due(NONE, x.boarded(3, 0));
        x.train(0, 0, 299);
        x.train(0, 1, 300);
        x.party(0, 1, 300);
        due(299, x.boarded(3, 1));
        due(NONE, x.boarded(1, 1));
        due(BAD, x.boarded(4, 0));
        due(BAD, x.boarded(-1, 0));
        due(BAD, x.boarded(0, 3));
        due(BAD, x.boarded(0, -1));
    }

    /** One train of label 1 from 0 up to 20, at which a party of label 0 waits ahead of its own. */
    private static void ways() {
        start(9);
        ChildTrains x = new ChildTrains();
        children(x, 3, 0, 5, 0, 0);
        children(x, 2, 1, 5, 0, 1);
        x.party(1, 0, 1);
        x.party(1, 1, 3);
        x.train(1, 1, 20);
        x.train(1, 2, 4);
        due(0, x.boarded(0, 1));
        due(3, x.boarded(3, 1));
        due(NONE, x.boarded(4, 1));
        x.wayOf(1);
        due(NONE, x.boarded(0, 1));
        due(3, x.boarded(3, 1));
        due(4, x.boarded(4, 1));
        x.wayOf(2);
        due(3, x.boarded(3, 1));
        due(4, x.boarded(4, 1));
        due(15, x.boarded(0, 1));
        due(16, x.boarded(1, 1));
        due(NONE, x.boarded(2, 1));
        x.train(1, 1, 3);
        due(0, x.boarded(0, 1));
        due(2, x.boarded(2, 1));

        start(10);
        x.train(1, 1, 20);
        due(2, x.mixed(0));
        due(1, x.mixed(1));
        due(4, x.mixed(2));
        x.wayOf(1);
        due(0, x.mixed(0));
        due(3, x.mixed(1));
        due(2, x.mixed(2));
        x.child(0, 1, 0, 1);
        due(3, x.mixed(2));
        due(BAD, x.mixed(3));
        due(BAD, x.mixed(-1));

        start(11);
        due(3, x.load(1, 1));
        due(0, x.load(1, 0));
        due(3, x.load(NONE, 0));
        due(0, x.load(NONE, 1));
        due(0, x.load(0, 0));
        due(0, x.load(5, 7));
        x.train(0, 1, 2);
        x.train(0, 2, 9);
        due(2, x.load(0, 0));
        due(1, x.load(NONE, 0));
        due(BAD, x.load(6, 0));
        due(BAD, x.load(-1, 0));
        due(BAD, x.load(-8, 0));
        due(BAD, x.load(-10, 0));
        due(BAD, x.load(0, 8));
        due(BAD, x.load(NONE, -1));
    }

    private static void houses() {
        start(12);
        ChildTrains x = new ChildTrains();
        int[][] bad = {{-1, 1, 1, 0, 0}, {6, 1, 1, 0, 0}, {0, 0, 1, 0, 0}, {0, 4, 1, 0, 0}, {0, 1, 0, 0, 0}, {0, 1, 5, 0, 0},
            {0, 1, 1, -1, 0}, {0, 1, 1, 16, 0}, {0, 1, 1, 0, -1}, {0, 1, 1, 0, 4}, {HIGH, 1, 1, 0, 0}, {0, LOW, 1, 0, 0}};
        for (int[] b : bad) {
            due(BAD, x.house(b[0], b[1], b[2], b[3], b[4]));
        }
        due(0, x.count(1));
        due(0, x.house(0, 1, 1, 0, 0));
        due(1, x.house(5, 3, 4, 15, 3));
        for (int h = 2; h < 24; h++) {
            due(h, x.house(1, 2, 2, 5, 1));
        }
        due(FULL, x.house(0, 1, 1, 0, 0));
        due(BAD, x.house(0, 0, 1, 0, 0));
        due(24, x.count(1));
        due(4, x.free(1, 0));
        due(2, x.free(23, 0));
        due(0, x.best(0, 0));
        due(STATE, x.best(1, 0));
    }

    private static void pay() {
        start(13);
        ChildTrains x = new ChildTrains();
        int[][] rows = {{0, 0, 0, 0}, {0, 9, 9, 540}, {1, 0, 0, 0}, {1, 1, 0, 84}, {1, 9, 3, 660}, {2, 0, 0, 0},
            {2, 1, 1, 93}, {2, 2, 0, 172}, {2, 5, 0, 410}, {2, 9, 0, 726}, {3, 0, 0, 0}, {3, 1, 1, 123}, {3, 9, 9, 996}, {3, 3, 0, 251}};
        for (int[] r : rows) {
            due(r[3], x.pay(r[0], r[1], r[2]));
        }
        long trace = x.trace();
        int[][] bad = {{-1, 0, 0}, {4, 0, 0}, {0, -1, 0}, {0, 10, 0}, {0, 0, 1}, {3, 5, 6}, {3, 5, -1}, {HIGH, 1, 1}, {0, HIGH, 1}, {0, 5, LOW}};
        for (int[] b : bad) {
            due(BAD, x.pay(b[0], b[1], b[2]));
        }

        start(33);
        due(2 * 1 + 3 * 11 + 5 * 111 + 4 * 1111, trace);
        due(trace, x.trace());
        x.pay(0, 1, 0);
        due(trace + 1, x.trace());
        x.pay(1, 1, 0);
        due(trace + 12, x.trace());
        x.pay(2, 1, 0);
        due(trace + 123, x.trace());
        x.pay(3, 1, 0);
        due(trace + 1234, x.trace());
        x.child(0, 1, 0, 0);
        x.house(0, 3, 1, 15, 0);
        x.lodge(0, 0, 0);
        due(123, x.paid(0, 0));
        due(trace + 1234, x.trace());
    }

    private static void halls() {
        start(14);
        ChildTrains x = new ChildTrains();
        int[][] kids = {{0, 5, 1}, {1, 9, 2}, {0, 9, 1}, {1, 5, 2}, {0, 7, 3}, {1, 3, 3}, {0, 3, 0}};
        for (int[] k : kids) {
            x.child(k[0], k[1], k[2], 0);
        }
        train(x, 0, 2);
        due(7, x.hall(2, 0));
        due(7, x.hall(2, 1));
        due(3, x.hall(2, 2));
        due(0, x.hall(0, 0));
        due(0, x.hall(5, 2));
        x.house(2, 1, 1, 15, 0);
        x.house(2, 1, 2, 15, 1);
        x.house(3, 1, 4, 15, 1);
        x.house(2, 1, 2, 15, 3);
        due(2, x.hall(2, 1));
        due(2, x.hall(2, 2));

        start(15);
        // Eldest, of two of nine years the least number; two of three years by numbers; 0 and its kin 2.
        int[] want = {3, 0, 3, NONE, NONE, 1, 1};
        for (int c = 0; c < 7; c++) {
            due(want[c], x.chosen(c));
        }
        x.house(2, 1, 4, 1, 2);
        due(NONE, x.chosen(3));
        due(4, x.chosen(4));
        due(1, x.hall(2, 1));
        x.house(2, 1, 1, 2, 3);
        due(5, x.chosen(3));
        due(0, x.hall(2, 1));
        x.train(0, 2, 2);
        due(NONE, x.chosen(6));
        due(2, x.hall(2, 0));
        due(BAD, x.chosen(7));
        due(BAD, x.chosen(-1));

        start(14);
        due(BAD, x.hall(-1, 0));
        due(BAD, x.hall(6, 0));
        due(BAD, x.hall(0, -1));
        due(BAD, x.hall(0, 3));
    }

    /** Each SORT has a house of its own, and each house takes that SORT alone. */
    private static void sorts() {
        start(15);
        ChildTrains x = new ChildTrains();
        x.child(0, 8, 0, 0);
        x.child(1, 8, 0, 0);
        x.child(0, 9, 0, 0);
        x.child(1, 9, 0, 0);
        train(x, 0, 0);
        for (int s = 3; s >= 0; s--) {
            x.house(0, 1, 4, 1 << s, 2);
        }
        for (int c = 0; c < 4; c++) {
            due(3 - c, x.chosen(c));
        }
    }

    private static void bestLodging() {
        start(16);
        ChildTrains x = new ChildTrains();
        train(x, 0, 1);
        due(0, x.best(1, 0));
        due(0, x.best(1, 1));
        children(x, 2, 0, 5, 1, 0);
        children(x, 2, 1, 5, 1, 0);
        due(4, x.best(1, 0));
        due(6, x.best(1, 1));
        x.house(1, 1, 2, 1, 0);
        due(2, x.best(1, 0));
        due(5, x.best(1, 1));
        x.house(1, 1, 3, 15, 0);
        due(0, x.best(1, 0));
        due(3, x.best(1, 1));
        x.house(1, 1, 4, 15, 0);
        due(0, x.best(1, 1));
        children(x, 8, 0, 5, 0, 0);
        due(3, x.best(1, 0));
        due(0, x.best(1, 1));
        x.child(0, 5, 0, 0);
        due(STATE, x.best(1, 0));
        due(STATE, x.best(1, 1));
        due(BAD, x.best(1, 2));
        due(BAD, x.best(1, -1));
        due(BAD, x.best(6, 0));
        due(BAD, x.best(-1, 0));
        due(0, x.best(0, 0));
        x.train(0, 2, 12);
        due(3, x.best(1, 0));
        for (int h = 3; h < 6; h++) {
            x.house(1, 1, 1, 15, 0);
        }
        due(0, x.best(1, 0));
        x.house(1, 1, 1, 0, 0);
        due(STATE, x.best(1, 0));
        for (int h = 0; h < 7; h++) {
            x.house(4, 1, 1, 15, 0);
        }
        due(STATE, x.best(4, 0));
    }

    /** Fewest OVER come ahead of KIN together: the pair has to part so that the third finds a bed. */
    private static void overAheadOfParted() {
        start(16);
        ChildTrains x = new ChildTrains();
        train(x, 3, 5);
        x.child(0, 5, 7, 0);
        x.child(0, 5, 7, 0);
        x.child(1, 5, 0, 0);
        x.house(5, 1, 2, 3, 0);
        x.house(5, 1, 1, 1, 0);
        due(0, x.best(5, 0));
        due(1, x.best(5, 1));
        x.wayOf(1);
        due(0, x.best(5, 1));
        x.party(0, 0, 3);
        due(1, x.best(5, 1));
    }

    /** One child can lie in one house alone, the first child in the first house or the last in the last. */
    private static void aloneInAHouse() {
        start(16);
        ChildTrains x = new ChildTrains();
        train(x, 0, 0);
        x.child(1, 5, 0, 0);
        children(x, 2, 0, 5, 4, 0);
        x.house(0, 1, 1, 2, 0);
        x.house(0, 1, 2, 1, 0);
        due(0, x.best(0, 0));
        due(0, x.best(0, 1));
        ChildTrains y = new ChildTrains();
        train(y, 0, 0);
        children(y, 2, 0, 5, 4, 0);
        y.child(1, 5, 0, 0);
        y.house(0, 1, 2, 1, 0);
        y.house(0, 1, 1, 15, 0);
        due(0, y.best(0, 0));
        due(0, y.best(0, 1));
    }

    private static void bestAtItsLimit() {
        start(16);
        ChildTrains x = new ChildTrains();
        train(x, 0, 0);
        for (int c = 0; c < 12; c++) {
            x.child(c % 2, c < 6 ? 3 : 12, 1 + c / 4, 0);
        }
        for (int h = 0; h < 6; h++) {
            x.house(0, 1, 4, 15, 0);
        }
        due(0, x.best(0, 0));
        due(0, x.best(0, 1));
        ChildTrains y = new ChildTrains();
        train(y, 0, 0);
        children(y, 12, 0, 5, 1, 0);
        for (int h = 0; h < 6; h++) {
            y.house(0, 1, 2, 15, 0);
        }
        due(0, y.best(0, 0));
        due(60, y.best(0, 1));
    }

    private static void orderTexts() {
        start(17);
        ChildTrains x = new ChildTrains();
        due(0, x.orders());
        String[] good = {"m0:+l;", "c99:=v;", "p10:-f;", "m3:-ls0s1a<0a>15kh0;", "m3:-l!s0!a>9!k!h3!w5w0;", "m0:+l;m0:+l;"};
        for (String g : good) {
            due(g.indexOf(';') == g.length() - 1 ? 1 : 2, orders(x, g));
            due(0, x.count(4));
        }
        due(2, x.count(2));
        due(0, orders(x, ""));
        due(0, x.count(2));
        due(1, orders(x, "m0:+l;"));
        Object[][] faults = {
            {"M0:+l;", 0}, {" m0:+l;", 0}, {"m", 1}, {"m:", 1}, {"m0", 2}, {"m00:+l;", 2}, {"m01:+l;", 2}, {"m100:+l;", 3},
            {"m990:+l;", 3}, {"m9 :+l;", 2}, {"m0:", 3}, {"m0:l;", 3}, {"m0:*l;", 3}, {"m0:++l;", 4}, {"m0:+", 4}, {"m0:+x;", 4},
            {"m0:+l", 5}, {"m0:+l:", 5}, {"m0:+l ;", 5}, {"m0:+l;;", 6}, {"m0:+l;x", 6}, {"m0:+l;m", 7},
            {"m0:+ls", 6}, {"m0:+ls2;", 6}, {"m0:+ls00;", 7}, {"m0:+la5;", 6}, {"m0:+la=5;", 6}, {"m0:+la<", 7}, {"m0:+la<;", 7},
            {"m0:+la<16;", 8}, {"m0:+la<20;", 8}, {"m0:+la>05;", 8}, {"m0:+la<150;", 9}, {"m0:+la<1", 8}, {"m0:+lh4;", 6},
            {"m0:+lh33;", 7}, {"m0:+lw6;", 6}, {"m0:+lw;", 6}, {"m0:+l!;", 6}, {"m0:+l!!k;", 6}, {"m0:+l!", 6}, {"m0:+lk1;", 6},
            {"m0:+lkkkkkkk;", 11}, {"m0:+lkkkkkk!k;", 11}, {"m0:+lkkkkkk", 11}, {"m0:+lkkkkka<15k;", 14}, {"m0:+l\u00eb;", 5}, {"m\u0000:+l;", 1}};
        for (Object[] f : faults) {
            String text = (String) f[0];
            due(-10 - (Integer) f[1], orders(x, text));
            due(text.length(), x.count(4));
            due(1, x.count(2));
        }
        manyOrders(new ChildTrains());
    }

    private static void manyOrders(ChildTrains x) {
        due(30, orders(x, "c0:+l;".repeat(30)));
        due(-10 - 180, orders(x, "c0:+l;".repeat(31)));
        due(-10 - 180, orders(x, "c0:+l;".repeat(30) + "c"));
        due(-10 - 180, orders(x, "c0:+l;".repeat(30) + " "));
        due(30, x.count(2));
        due(30, orders(x, "c10:+l!a>10!a>10;".repeat(30)));
        due(-10 - 600, orders(x, "m10:+l!a<10!a<10!a<10!w1!h1!k;".repeat(19) + "m10:+l!a<10!a<10!a<10!w1!h1!a<"));
    }

    private static ChildTrains villagers() {
        ChildTrains x = new ChildTrains();
        x.child(0, 4, 1, 0);
        x.child(1, 10, 0, 0);
        x.house(2, 1, 4, 15, 0);
        x.house(3, 2, 4, 15, 0);
        return x;
    }

    private static void rulings() {
        start(19);
        ChildTrains x = villagers();
        due(0, x.ruling(0, 0, 0, 0));
        due(NONE, x.why(0, 0, 0, 0));
        orders(x, "p50:-l;c40:+l;c30:-l;m20:=l;m20:-l;m10:+l;");
        int[][] rows = {{9, 0, NONE}, {10, 1, 5}, {19, 1, 5}, {20, -1, 4}, {199, -1, 4}};
        for (int[] r : rows) {
            due(r[1], x.ruling(0, 0, 0, r[0]));
            due(r[2], x.why(0, 0, 0, r[0]));
            due(0, x.ruling(1, 0, 0, r[0]));
            due(NONE, x.why(2, 0, 0, r[0]));
        }
        orders(x, "p5:+l;c9:-l;c9:=l;");
        due(1, x.ruling(0, 0, 0, 8));
        due(0, x.ruling(0, 0, 0, 9));
        due(2, x.why(0, 0, 0, 9));
        orders(x, "m0:-l;m0:+v;m0:=f;");
        due(-1, x.ruling(0, 0, 0, 0));
        due(1, x.ruling(1, 0, 0, 0));
        due(0, x.ruling(2, 0, 0, 0));
        for (int what = 0; what < 3; what++) {
            due(what, x.why(what, 1, 1, 0));
        }
        conds(x);
        int[][] bad = {{-1, 0, 0, 0}, {3, 0, 0, 0}, {0, -1, 0, 0}, {0, 2, 0, 0}, {0, 0, -1, 0}, {0, 0, 2, 0}, {0, 0, 0, -1}, {0, 0, 0, 200}};
        for (int[] b : bad) {
            due(-5, x.ruling(b[0], b[1], b[2], b[3]));
            due(BAD, x.why(b[0], b[1], b[2], b[3]));
        }
    }

    /** CONDS with whether they hold for child 0 in house 0 and child 1 in house 1. */
    private static void conds(ChildTrains x) {
        start(20);
        Object[][] rows = {{"s0", true, false}, {"s1", false, true}, {"!s0", false, true}, {"a<4", false, false}, {"a<5", true, false},
            {"a<11", true, true}, {"a>3", true, true}, {"a>4", false, true}, {"a>9", false, true}, {"a>10", false, false},
            {"a>0", true, true}, {"a<0", false, false}, {"a>15", false, false}, {"a<15", true, true}, {"k", true, false}, {"!k", false, true},
            {"h0", false, false}, {"h1", true, false}, {"h2", false, true}, {"h3", false, false}, {"!h0", true, true},
            {"w2", true, false}, {"w3", false, true}, {"!w2", false, true}, {"w5", false, false}, {"s0k", true, false}, {"s0!k", false, false},
            {"s1!ka>9h2w3!w0", false, true}, {"s1!ka>9h2w3!w3", false, false}};
        for (Object[] r : rows) {
            due(1, orders(x, "c0:-l" + r[0] + ";"));
            due((Boolean) r[1] ? 0 : NONE, x.why(0, 0, 0, 0));
            due((Boolean) r[2] ? 0 : NONE, x.why(0, 1, 1, 0));
            due((Boolean) r[2] ? -1 : 0, x.ruling(0, 1, 1, 0));
        }
    }

    private static void delays() {
        start(18);
        ChildTrains x = villagers();
        orders(x, "m5:+l;c99:-v;p0:-f;");
        due(0, x.delay(2, 0, 20));
        due(20, x.delay(2, 0, 4));
        due(4, x.delay(2, 0, 4));
        due(0, x.delay(2, 1, 20));
        due(0, x.delay(2, 2, 1));
        due(0, x.delay(3, 2, 2));
        due(0, x.ruling(0, 0, 0, 8));
        due(1, x.ruling(0, 0, 0, 9));
        due(0, x.ruling(0, 0, 1, 4));
        due(1, x.ruling(0, 0, 1, 5));
        due(0, x.ruling(1, 0, 0, 118));
        due(-1, x.ruling(1, 0, 0, 119));
        due(0, x.ruling(2, 0, 0, 0));
        due(-1, x.ruling(2, 0, 0, 1));
        due(0, x.ruling(2, 0, 1, 1));
        due(-1, x.ruling(2, 0, 1, 2));
        int[][] bad = {{-1, 0, 0}, {6, 0, 0}, {0, -1, 0}, {0, 3, 0}, {0, 0, -1}, {0, 0, 21}, {HIGH, 0, 0}, {0, LOW, 0}};
        for (int[] b : bad) {
            due(BAD, x.delay(b[0], b[1], b[2]));
        }
        orders(x, "m5:+l;");
        due(4, x.delay(2, 0, 0));
        due(20, x.delay(2, 1, 0));
        orders(x, "");
        due(0, x.delay(2, 1, 0));
        due(2, x.delay(3, 2, 0));
    }

    private static void lodging() {
        start(21);
        ChildTrains x = villagers();
        x.house(4, 3, 1, 9, 0);
        due(BAD, x.lodge(2, 0, 0));
        due(BAD, x.lodge(-1, 0, 0));
        due(BAD, x.lodge(0, 3, 0));
        due(BAD, x.lodge(0, -1, 0));
        due(BAD, x.lodge(0, 0, -1));
        due(BAD, x.lodge(0, 0, 200));
        due(0, x.count(3));
        x.child(0, 9, 0, 0);
        due(STATE, x.lodge(2, 2, 0));
        due(1, x.lodge(0, 2, 5));
        due(STATE, x.lodge(1, 2, 5));
        due(STATE, x.lodge(1, 0, 4));
        due(BAD, x.lodge(0, 2, 4));
        due(2, x.lodge(0, 0, 5));
        due(3, x.lodge(1, 2, 199));
        due(STATE, x.lodge(1, 0, 198));
        due(4, x.lodge(1, 0, 199));
        due(4, x.count(3));
        due(2, x.free(0, 199));

        ChildTrains y = villagers();
        orders(y, "m5:-lw2;m5:-vw3;");
        due(STATE, y.lodge(0, 0, 5));
        due(1, y.lodge(0, 0, 4));
        due(2, y.lodge(1, 1, 5));
        due(STATE, y.lodge(0, 1, 5));
        due(3, y.lodge(1, 0, 5));
        due(4, y.fetch(1, 5));
        due(STATE, y.lodge(1, 0, 5));
        orders(y, "m0:=l;m0:+v;c0:-l;c0:-v;");
        due(5, y.lodge(1, 0, 5));
        due(6, y.lodge(1, 1, 5));
    }

    private static void fetching() {
        start(22);
        ChildTrains x = villagers();
        due(BAD, x.fetch(2, 0));
        due(BAD, x.fetch(-1, 0));
        due(BAD, x.fetch(0, -1));
        due(BAD, x.fetch(0, 200));
        due(STATE, x.fetch(0, 0));
        due(1, x.lodge(0, 0, 3));
        due(STATE, x.fetch(0, 2));
        orders(x, "m4:-fw2;m0:-fw3;m0:-l;m0:-v;");
        due(STATE, x.fetch(0, 4));
        due(2, x.fetch(0, 3));
        due(STATE, x.fetch(0, 3));
        due(NONE, x.where(0, 3));
        due(STATE, x.lodge(0, 0, 3));
        orders(x, "");
        due(3, x.lodge(0, 1, 3));
        orders(x, "c0:+fw3;p0:-f;");
        due(4, x.fetch(0, 3));
        due(4, x.count(3));
    }

    private static void fullOfEvents() {
        start(21);
        ChildTrains x = villagers();
        for (int e = 1; e <= 79; e++) {
            due(e, e % 2 == 1 ? x.lodge(0, 0, e) : x.fetch(0, e));
        }
        due(80, x.lodge(0, 1, 100));
        due(FULL, x.lodge(1, 0, 100));
        due(FULL, x.lodge(0, 0, 100));
        due(STATE, x.lodge(1, 0, 99));
        due(BAD, x.lodge(0, 1, 100));

        start(22);
        due(FULL, x.fetch(0, 100));
        due(STATE, x.fetch(1, 100));
        due(STATE, x.fetch(0, 99));
        due(BAD, x.fetch(2, 100));
        due(80, x.count(3));
        due(1, x.where(0, 199));
        due(93, x.paid(1, 27));
        due(0, x.paid(0, 27));
    }

    private static void days() {
        ChildTrains x = villagers();
        x.child(0, 5, 0, 0);
        x.lodge(0, 0, 3);
        x.lodge(1, 0, 7);
        x.lodge(2, 0, 7);
        x.lodge(1, 1, 13);
        x.lodge(1, 0, 14);
        x.fetch(0, 14);
        x.lodge(1, 1, 15);

        start(23);
        int[][] rows = {{0, 2, NONE}, {0, 3, 0}, {0, 13, 0}, {0, 14, NONE}, {0, 199, NONE}, {1, 6, NONE}, {1, 7, 0}, {1, 12, 0},
            {1, 13, 1}, {1, 14, 0}, {1, 15, 1}, {1, 199, 1}, {2, 0, NONE}, {2, 199, 0}};
        for (int[] r : rows) {
            due(r[2], x.where(r[0], r[1]));
        }
        due(BAD, x.where(3, 0));
        due(BAD, x.where(-1, 0));
        due(BAD, x.where(0, -1));
        due(BAD, x.where(0, 200));

        start(24);
        due(0, x.paid(0, 0));
        due(60 * 3 + 24 + 24, x.paid(0, 1));
        due(60 * 2 + 24 + 12, x.paid(0, 2));
        due(84, x.paid(0, 27));
        due(0, x.paid(1, 2));
        due(93, x.paid(1, 3));
        due(BAD, x.paid(0, 28));
        due(BAD, x.paid(0, -1));
        due(BAD, x.paid(2, 0));
        due(BAD, x.paid(-1, 0));
        due(0, x.trace());

        start(25);
        int[][] free = {{0, 2, 4}, {0, 3, 3}, {0, 6, 3}, {0, 7, 1}, {0, 13, 2}, {0, 14, 2}, {0, 15, 3}, {1, 13, 3}, {1, 14, 4}, {1, 199, 3}};
        for (int[] f : free) {
            due(f[2], x.free(f[0], f[1]));
        }
        due(BAD, x.free(2, 0));
        due(BAD, x.free(-1, 0));
        due(BAD, x.free(0, -1));
        due(BAD, x.free(0, 200));

        start(28);
        int[][] city = {{0, 3}, {2, 3}, {3, 2}, {6, 2}, {7, 0}, {13, 0}, {14, 1}, {199, 1}};
        for (int[] c : city) {
            due(c[1], x.city(c[0]));
        }
        x.child(0, 1, 0, 0);
        due(2, x.city(199));
        due(BAD, x.city(-1));
        due(BAD, x.city(200));
    }

    /** PAY of a NURSERY counts those below five years who are there on the week's first day. */
    private static void nurseryPay() {
        start(24);
        ChildTrains x = new ChildTrains();
        x.child(0, 4, 0, 0);
        x.child(0, 5, 0, 0);
        x.child(0, 4, 0, 0);
        x.house(0, 3, 4, 15, 0);
        x.lodge(0, 0, 7);
        x.lodge(1, 0, 7);
        x.lodge(2, 0, 8);
        due(172 + 30, x.paid(0, 1));
        due(60 * 3 + 24 + 24 + 23 + 60, x.paid(0, 2));
        x.fetch(0, 21);
        due(172 + 30, x.paid(0, 3));
    }

    private static void troubleAndRest() {
        start(26);
        ChildTrains x = villagers();
        due(0, x.trouble(0));
        int[] left = {1, 10, 20, 29};
        for (int d : left) {
            x.lodge(0, 0, d);
            x.fetch(0, d);
        }
        due(0, x.trouble(0));
        x.lodge(0, 0, 37);
        x.lodge(0, 1, 37);
        due(1, x.trouble(0));
        due(0, x.trouble(1));
        due(BAD, x.trouble(2));
        due(BAD, x.trouble(-1));
        ChildTrains y = villagers();
        for (int d : new int[] {1, 10, 20, 28}) {
            y.lodge(0, 0, d);
            due(0, y.trouble(0));
            y.fetch(0, d);
        }
        due(1, y.trouble(0));

        start(27);
        ChildTrains z = villagers();
        due(0, z.restless());
        z.lodge(0, 0, 1);
        z.lodge(0, 1, 1);
        z.fetch(0, 1);
        z.lodge(0, 0, 1);
        z.lodge(0, 1, 2);
        due(0, z.restless());
        z.fetch(0, 2);
        z.lodge(0, 1, 2);
        z.lodge(1, 0, 2);
        due(0, z.restless());
        z.lodge(0, 0, 90);
        due(1, z.restless());
        for (int i = 0; i < 3; i++) {
            z.lodge(1, 1 - i % 2, 91);
        }
        due(2, z.restless());
    }

    private static void tornLabels() {
        start(29);
        ChildTrains x = new ChildTrains();
        due(0, x.torn(bytes("?"), 1, 0));
        due(NONE, x.torn(bytes("?"), 1, 1));
        due(NONE, x.torn(bytes("?"), 1, 2));
        x.child(0, 9, 1, 3);
        x.child(0, 9, 2, 4);
        x.child(0, 8, 2, 5);
        due(0, x.torn(bytes("?"), 1, 0));
        name(x, 1, "abcdefgz");
        name(x, 2, "abcdefgh");
        name(x, 0, "ab");
        due(2, x.torn(bytes("abcdefg?"), 8, 0));
        due(1, x.torn(bytes("abcdefg?"), 8, 1));
        due(1, x.torn(bytes("abcdefg?"), 8, 2));
        due(2, x.torn(bytes("???????h"), 8, 1));
        due(NONE, x.torn(bytes("???????h"), 8, 2));
        due(0, x.torn(bytes("???????i"), 8, 0));
        due(1, x.torn(bytes("zzz?b"), 2, 0));
        due(0, x.torn(bytes("???"), 3, 0));
        for (String bad : new String[] {"a@", "A?", "?`", "{?", " a", "a\u00e1", "\u0000a"}) {
            due(BAD, x.torn(bytes(bad), 2, 0));
        }
        due(BAD, x.torn(bytes("????????"), 9, 0));
        due(BAD, x.torn(bytes("????????"), 0, 0));
        due(BAD, x.torn(bytes("????????"), LOW, 0));
        due(BAD, x.torn(bytes("??"), 2, 3));
        due(BAD, x.torn(bytes("??"), 2, -1));
    }

    /** Rows of sex, age, kin, party by which just one question is the best one, and ties go to the first. */
    private static void questions() {
        start(29);
        int[][][] kids = {
            {{0, 5, 0, 0}, {1, 5, 0, 0}}, {{0, 8, 0, 0}, {0, 9, 0, 0}}, {{0, 5, 0, 0}, {0, 5, 20, 0}}, {{0, 5, 1, 0}, {0, 5, 2, 7}},
            {{1, 5, 1, 3}, {1, 5, 1, 3}}, {{0, 5, 0, 1}, {1, 9, 1, 2}, {0, 5, 0, 3}}, {{0, 5, 0, 1}, {0, 9, 1, 1}}};
        int[] want = {0, 1, 2, 3, 0, 3, 1};
        for (int i = 0; i < kids.length; i++) {
            ChildTrains x = new ChildTrains();
            for (int c = 0; c < kids[i].length; c++) {
                int[] k = kids[i][c];
                x.child(k[0], k[1], k[2], k[3]);
                name(x, c, "ab");
            }
            due(kids[i].length, x.torn(bytes("??"), 2, 0));
            due(want[i], x.torn(bytes("a?"), 2, 2));
        }
    }

    private static void paths() {
        start(30);
        ChildTrains x = new ChildTrains();
        children(x, 3, 0, 5, 0, 0);
        children(x, 2, 0, 5, 0, 1);
        children(x, 2, 0, 5, 0, 7);
        due(0, x.paths(0));
        due(0, x.paths(1));
        x.train(0, 2, 48);
        due(0, x.paths(0));
        x.house(0, 1, 4, 0, 0);
        due(4, x.paths(0));
        due(1, x.paths(1));
        x.train(1, 2, 3);
        due(4, x.paths(0));
        x.train(1, 4, 1);
        x.house(1, 1, 3, 0, 0);
        due(7, x.paths(0));
        due(2, x.paths(1));
        x.house(0, 1, 3, 0, 0);
        due(7, x.paths(0));
        due(1, x.paths(1));
        x.train(0, 2, 6);
        due(7, x.paths(0));
        due(2, x.paths(1));
        x.train(1, 4, 0);
        due(5, x.paths(0));
        due(1, x.paths(1));
        x.train(0, 2, 2);
        due(3, x.paths(0));
        due(1, x.paths(1));
        due(BAD, x.paths(2));
        due(BAD, x.paths(-1));
    }

    private static void pathsOfAllParties() {
        start(30);
        ChildTrains x = new ChildTrains();
        for (int p = 0; p < 8; p++) {
            children(x, p == 0 ? 1 : 2, 0, 5, 0, p);
        }
        x.train(5, 2, 1);
        x.train(5, 4, 5);
        for (int h = 0; h < 4; h++) {
            x.house(5, 1, 4, 0, 0);
        }
        due(1, x.paths(0));
        due(1, x.paths(1));
        x.train(5, 2, 14);
        due(14, x.paths(0));
        due(1, x.paths(1));
        x.train(5, 2, 15);
        due(15, x.paths(0));
        due(1, x.paths(1));
    }

    /** One train to a later village can bring what two to earlier ones would have to. */
    private static void fewestTrains() {
        start(30);
        ChildTrains x = new ChildTrains();
        children(x, 2, 0, 5, 0, 0);
        children(x, 2, 0, 5, 0, 1);
        for (int t = 0; t < 3; t++) {
            x.train(t, 2, 2);
            x.train(t, 4, t);
            x.house(t, 1, 4, 0, 0);
        }
        due(4, x.paths(0));
        due(2, x.paths(1));
        x.train(2, 2, 4);
        due(4, x.paths(0));
        due(1, x.paths(1));
    }

    /** All that an object can hold, and every call asked of it. */
    private static void fullObject() {
        start(1);
        ChildTrains x = new ChildTrains();
        for (int c = 0; c < 48; c++) {
            x.child(1, 9, 20, 7);
            x.type('z', 1);
            due(1, x.name(c));
        }
        for (int h = 0; h < 24; h++) {
            x.house(5, 3, 4, 15, 3);
        }
        for (int e = 0; e < 48; e++) {
            due(e + 1, x.lodge(e, e / 4, 0));
        }
        for (int e = 48; e < 80; e++) {
            due(e + 1, x.lodge(e - 48, 12 + e % 12, 199));
        }
        x.party(7, 0, 5);
        train(x, 5, 5);
        train(x, 4, 5);
        for (int way = 0; way < 3; way++) {
            x.wayOf(way);
            due(way == 1 ? 0 : way == 0 ? 24 : 0, x.mixed(0));
            due(0, x.mixed(1));
            due(48, x.mixed(2));
            due(way == 0 ? 24 : 48, x.load(5, 7));
            due(0, x.load(NONE, 7));
            due(way == 0 ? 23 : 47, x.boarded(47, 1));
            due(48, x.hall(5, 0));
            due(0, x.hall(5, 1));
            due(48 * 47 / 2 - 12 * 6, x.hall(5, 2));
            due(11, x.chosen(47));
            due(STATE, x.best(5, 0));
        }
        due(48, x.torn('?', 1, 0));
        due(0, x.torn('?', 1, 1));
        due(0, x.torn('?', 1, 2));
        due(48, x.paths(0));
        due(1, x.paths(1));
        due(0, x.city(199));
        due(0, x.city(0));
        due(0, x.restless());
        due(1, x.trouble(0));
        due(0, x.trouble(23));
        due(11, x.where(47, 199));
        due(19, x.where(31, 199));
        due(330, x.paid(23, 27) + x.paid(0, 0));
        due(330, x.paid(11, 27));
        due(0, x.free(11, 199));
        due(4, x.free(0, 199));
        due(FULL, x.lodge(47, 0, 199));
        due(FULL, x.fetch(47, 199));
        due(30, orders(x, "p99:-fa>8!a<9;".repeat(30)));
        due(29, x.why(2, 47, 23, 199));
        due(-1, x.ruling(2, 47, 23, 99));
        due(STATE, x.fetch(47, 199));
    }

    /** A train takes those of its label from the midst of a full platform. */
    private static void fullPlatform() {
        start(9);
        ChildTrains x = new ChildTrains();
        children(x, 24, 0, 5, 0, 0);
        children(x, 24, 0, 5, 0, 1);
        x.party(1, 0, 1);
        train(x, 1, 0);
        x.wayOf(1);
        due(0, x.boarded(24, 1));
        due(23, x.boarded(47, 1));
        due(NONE, x.boarded(23, 1));
        due(24, x.mixed(1));
        x.wayOf(2);
        due(295, x.boarded(0, 1));
        due(299, x.boarded(4, 1));
        due(19, x.mixed(1));
    }

    private static void lessons() {
        start(31);
        ChildTrains x = new ChildTrains();
        due(1, x.lessons(1, 1, 1, 1, 1, 0));
        due(300, x.lessons(1, 9, 9, 10, 30, 0));
        due(34, x.lessons(9, 1, 9, 10, 30, 0));
        due(34, x.lessons(9, 9, 1, 10, 30, 2));
        due(33, x.lessons(9, 9, 1, 10, 30, 3));
        due(300, x.lessons(9, 9, 9, 10, 30, 8));
        due(2, x.lessons(3, 2, 5, 3, 1, 0));
        due(0, x.lessons(5, 2, 3, 2, 1, 4));
        due(2, x.lessons(5, 2, 3, 2, 2, 0));
        int[][] bad = {{0, 1, 1, 1, 1, 0}, {10, 1, 1, 1, 1, 0}, {1, 0, 1, 1, 1, 0}, {1, 10, 1, 1, 1, 0}, {1, 1, 0, 1, 1, 0},
            {1, 1, 10, 1, 1, 0}, {1, 1, 1, 0, 1, 0}, {1, 1, 1, 11, 1, 0}, {1, 1, 1, 1, 0, 0}, {1, 1, 1, 1, 31, 0},
            {1, 1, 1, 1, 1, -1}, {3, 1, 1, 1, 1, 3}, {LOW, 1, 1, 1, 1, 0}, {1, HIGH, HIGH, HIGH, HIGH, 0}};
        for (int[] b : bad) {
            due(BAD, x.lessons(b[0], b[1], b[2], b[3], b[4], b[5]));
        }
    }

    private static void counts() {
        start(32);
        ChildTrains x = villagers();
        x.child(0, 1, 0, 0);
        x.lodge(0, 0, 0);
        orders(x, "m0:+l;m0:+l;m0:+l;m0:+l;");
        type(x, "abcde");
        due(3, x.count(0));
        due(2, x.count(1));
        due(4, x.count(2));
        due(1, x.count(3));
        due(5, x.count(4));
        due(BAD, x.count(5));
        due(BAD, x.count(-1));
        due(BAD, x.count(HIGH));
        due(BAD, x.count(LOW));
    }

    public static void main(String[] args) {
        newObject();
        child();
        typing();
        naming();
        partyAndTrain();
        boarding();
        ways();
        houses();
        pay();
        halls();
        sorts();
        bestLodging();
        overAheadOfParted();
        aloneInAHouse();
        bestAtItsLimit();
        orderTexts();
        rulings();
        delays();
        lodging();
        fetching();
        fullOfEvents();
        days();
        nurseryPay();
        troubleAndRest();
        tornLabels();
        questions();
        paths();
        pathsOfAllParties();
        fewestTrains();
        fullObject();
        fullPlatform();
        lessons();
        counts();
        System.out.println(wrong + " answers are not as due");
        if (wrong != 0) {
            System.exit(1);
        }
    }
}
