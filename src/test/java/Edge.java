import java.util.Arrays;

/** What the tests of boundary cases share: sentences, answers that are due, and pictures of an object. */
final class Edge {
    static final int BAD = -1, STATE = -2, FULL = -3, NONE = -9;
    static final int LOW = Integer.MIN_VALUE, HIGH = Integer.MAX_VALUE;

    private static final int PICTURES = 3;
    private static int wrong = 0;
    private static int told = 0;
    private static String now = "";

    private Edge() {
    }

    /** A run of calls that brings a new object to where a sentence is looked at. */
    interface Build {
        void on(ChildTrains x);

        default Build then(Build next) {
            return x -> {
                on(x);
                next.on(x);
            };
        }
    }

    /** One call, whose answer is looked at. */
    interface Ask {
        long of(ChildTrains x);
    }

    /** A sentence of the document, in its words, and the test of it. */
    static void sentence(String words, Runnable test) {
        now = words;
        told++;
        test.run();
    }

    static void due(long want, long got) {
        due(want, got, "");
    }

    static void due(long want, long got, String where) {
        if (got == want) {
            return;
        }
        wrong++;
        int line = StackWalker.getInstance().walk(s -> s.filter(f -> !f.getClassName().startsWith("Edge$")
            && !f.getClassName().equals("Edge")).findFirst().get().getLineNumber());
        System.out.println("\"" + now + "\", line " + line + " " + where + ": answered " + got + ", due is " + want);
    }

    /** Answers in a row, as a loop over them would ask. */
    static void dueRow(long[] want, long... got) {
        if (!Arrays.equals(want, got)) {
            due(0, 1, "row " + Arrays.toString(got) + " for " + Arrays.toString(want));
        }
    }

    static void end() {
        System.out.println(told + " sentences, " + wrong + " answers are not as due");
        if (wrong != 0) {
            System.exit(1);
        }
    }

    static ChildTrains made(Build build) {
        ChildTrains x = new ChildTrains();
        build.on(x);
        return x;
    }

    /** The call is refused with this answer, and then all calls answer as if it had not been made. */
    static void refused(long want, Build build, Ask call) {
        due(want, call.of(made(build)));
        unchanged(build, call);
    }

    /** An object on which the call was made and one on which it was not show the same pictures. */
    static void unchanged(Build build, Ask call) {
        for (int p = 0; p < PICTURES; p++) {
            ChildTrains x = made(build);
            call.of(x);
            long[] after = picture(p, x);
            long[] before = picture(p, made(build));
            int first = Arrays.mismatch(before, after);
            due(-1, first, "picture " + p + " has changed");
        }
    }

    /** Parts of a picture are taken of objects of their own, so that none is asked more than 512 times. */
    private static long[] picture(int part, ChildTrains x) {
        long[] row = new long[400];
        int n = part == 0 ? trainPicture(x, row) : part == 1 ? housePicture(x, row) : textPicture(x, row);
        return Arrays.copyOf(row, n);
    }

    private static int trainPicture(ChildTrains x, long[] row) {
        int n = 0;
        for (int what = 0; what < 5; what++) {
            row[n++] = x.count(what);
        }
        row[n++] = x.trace();
        row[n++] = x.restless();
        for (int what = 0; what < 3; what++) {
            row[n++] = x.mixed(what);
        }
        for (int c = 0; c < row[0]; c++) {
            row[n++] = x.boarded(c, 0);
            row[n++] = x.boarded(c, 1);
        }
        for (int p = 0; p < 8; p++) {
            row[n++] = x.load(NONE, p);
        }
        for (int day : new int[] {0, 5, 50, 100, 199}) {
            row[n++] = x.city(day);
        }
        row[n++] = x.paths(0);
        row[n++] = x.paths(1);
        return n;
    }

    private static int housePicture(ChildTrains x, long[] row) {
        int n = 0;
        for (int v = 0; v < 6; v++) {
            for (int what = 0; what < 3; what++) {
                row[n++] = x.hall(v, what);
                row[n++] = what < 2 ? x.best(v, what) : 0;
            }
        }
        int houses = x.count(1);
        for (int h = 0; h < houses; h++) {
            row[n++] = x.trouble(h);
            row[n++] = x.free(h, 199);
            row[n++] = x.paid(h, 27);
        }
        int children = x.count(0);
        for (int c = 0; c < children; c++) {
            row[n++] = x.chosen(c);
            row[n++] = x.where(c, 0);
            row[n++] = x.where(c, 199);
        }
        return n;
    }

    /** What is set is read by setting it; THE DRAFT by making it THE ORDERS or a NAME. */
    private static int textPicture(ChildTrains x, long[] row) {
        int n = 0;
        for (int what = 0; what < 3; what++) {
            for (int length = 1; length <= 8; length++) {
                row[n++] = x.torn(bytes("????????"), length, what);
            }
            for (int c = 0; c < 4; c++) {
                for (int h = 0; h < 3; h++) {
                    row[n++] = x.why(what, c, h, 199);
                    row[n++] = x.ruling(what, c, h, 20);
                }
            }
        }
        row[n++] = x.wayOf(0);
        for (int p = 0; p < 8; p++) {
            row[n++] = x.party(p, 0, 0);
            row[n++] = x.party(p, 1, 0);
        }
        for (int t = 0; t < 6; t++) {
            for (int what = 0; what < 5; what++) {
                row[n++] = x.train(t, what, 1);
            }
        }
        for (int v = 0; v < 6; v++) {
            for (int of = 0; of < 3; of++) {
                row[n++] = x.delay(v, of, 0);
            }
        }
        row[n++] = x.orders();
        row[n++] = x.name(0);
        for (int length = 1; length <= 8; length++) {
            row[n++] = x.torn(bytes("????????"), length, 1);
        }
        row[n++] = x.count(4);
        return n;
    }

    /** Signs 0 to 255 as bytes of a number, the first one highest. */
    static long bytes(String text) {
        long v = 0;
        for (char c : text.toCharArray()) {
            v = v << 8 | c;
        }
        return v;
    }

    static void type(ChildTrains x, String text) {
        for (int i = 0; i < text.length(); i += 8) {
            String part = text.substring(i, Math.min(text.length(), i + 8));
            x.type(bytes(part), part.length());
        }
    }

    static int name(ChildTrains x, int child, String name) {
        x.clear();
        type(x, name);
        return x.name(child);
    }

    static int orders(ChildTrains x, String text) {
        x.clear();
        type(x, text);
        return x.orders();
    }

    static Build typed(String text) {
        return x -> type(x, text);
    }

    static Build ordered(String text) {
        return x -> orders(x, text);
    }

    static Build children(int many, int sex, int age, int kin, int party) {
        return x -> {
            for (int i = 0; i < many; i++) {
                x.child(sex, age, kin, party);
            }
        };
    }

    static Build houses(int many, int village, int beds, int takes, int habit) {
        return x -> {
            for (int i = 0; i < many; i++) {
                x.house(village, 1, beds, takes, habit);
            }
        };
    }

    /** A train that stands from a minute up to another one, with seats, to a village. */
    static Build train(int train, int from, int upTo, int seats, int village) {
        return x -> {
            x.train(train, 0, from);
            x.train(train, 1, upTo);
            x.train(train, 2, seats);
            x.train(train, 4, village);
        };
    }

    /** Train 0 brings all to village 0. */
    static Build brought() {
        return train(0, 0, 300, 48, 0);
    }

    /** Something of everything, so that a call that should change nothing has much to change. */
    static void world(ChildTrains x) {
        int[][] kids = {{0, 4, 1, 0}, {1, 10, 1, 1}, {0, 12, 2, 1}, {1, 3, 2, 2}, {0, 8, 0, 7}, {1, 15, 20, 7}};
        for (int[] k : kids) {
            x.child(k[0], k[1], k[2], k[3]);
        }
        String[] names = {"a", "anna", "anno", "bertabee"};
        for (int c = 0; c < names.length; c++) {
            name(x, c, names[c]);
        }
        x.party(1, 0, 2);
        x.party(7, 0, 3);
        x.party(1, 1, 4);
        x.wayOf(2);
        train(0, 0, 9, 2, 1).on(x);
        train(2, 3, 8, 3, 1).on(x);
        train(3, 5, 7, 1, 4).on(x);
        x.train(2, 3, 2);
        x.house(1, 1, 2, 15, 3);
        x.house(1, 2, 1, 7, 0);
        x.house(4, 3, 4, 15, 1);
        x.delay(1, 0, 3);
        x.delay(4, 2, 20);
        orders(x, "m9:=lw1;c2:-fw4a>14;p0:-vs1!k;c50:+lk;");
        x.lodge(0, 0, 2);
        x.lodge(1, 0, 3);
        x.lodge(0, 2, 5);
        x.lodge(2, 2, 5);
        x.fetch(2, 6);
        x.pay(3, 2, 1);
        type(x, "xyz");
    }
}
