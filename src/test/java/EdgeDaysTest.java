/** Boundary cases of part 4, EVENTS and what follows from them: a test for each sentence. */
public final class EdgeDaysTest {
    private static final int BAD = Edge.BAD, STATE = Edge.STATE, FULL = Edge.FULL, NONE = Edge.NONE;

    private static void due(long want, long got) {
        Edge.due(want, got);
    }

    /** Five small boys; houses 0, 1 and 2 in villages 0, 1 and 2, of KINDS 1, 2 and 3, with 4, 1 and 4 BEDS. */
    private static void village(ChildTrains x) {
        for (int c = 0; c < 5; c++) {
            x.child(0, 3 + c, 0, 0);
        }
        x.house(0, 1, 4, 15, 0);
        x.house(1, 2, 1, 15, 0);
        x.house(2, 3, 4, 15, 0);
    }

    private static ChildTrains village(Edge.Build more) {
        return Edge.made(built(more));
    }

    private static Edge.Build built(Edge.Build more) {
        return x -> {
            village(x);
            more.on(x);
        };
    }

    /** As many EVENTS as told: child 0 goes in and out of house 0, all on one day. */
    private static Edge.Build events(int many, int day) {
        return x -> {
            for (int e = 0; e < many; e++) {
                if (e % 2 == 0) {
                    x.lodge(0, 0, day);
                } else {
                    x.fetch(0, day);
                }
            }
        };
    }

    private static void lodging() {
        Edge.sentence("LODGED: from a DAY (0 .. 199) on: EVENTS", () -> {
            ChildTrains x = village(y -> { });
            due(1, x.lodge(0, 0, 0));
            due(2, x.lodge(1, 0, 0));
            due(3, x.lodge(1, 1, 199));
            due(4, x.fetch(0, 199));
            due(4, x.count(3));
        });
        Edge.sentence("EVENTS (80 at most)", () -> {
            ChildTrains x = village(events(79, 7));
            due(79, x.count(3));
            due(80, x.fetch(0, 7));
            due(FULL, x.lodge(0, 0, 7));
            due(80, x.count(3));
            ChildTrains y = village(events(79, 7));
            due(80, y.lodge(0, 2, 7));
            due(FULL, y.fetch(0, 7));
            due(FULL, y.lodge(0, 0, 7));
            due(80, y.count(3));
        });
        Edge.sentence("lodge: FULL, and nothing changes", () -> {
            Edge.refused(FULL, built(events(80, 7)), x -> x.lodge(0, 0, 7));
            Edge.refused(FULL, built(events(80, 7)), x -> x.lodge(4, 2, 199));
            Edge.refused(FULL, built(x -> {
                x.lodge(1, 0, 0);
                events(79, 7).on(x);
            }), x -> x.lodge(1, 1, 9));
        });
        Edge.sentence("fetch: FULL, and nothing changes", () -> {
            Edge.Build one = built(x -> {
                x.lodge(1, 0, 0);
                events(79, 7).on(x);
            });
            Edge.refused(FULL, one, x -> x.fetch(1, 7));
            Edge.refused(FULL, one, x -> x.fetch(1, 199));
            due(0, Edge.made(one).where(1, 199));
        });
        Edge.sentence("told in the order of their DAYS (none ahead of the latest one)", () -> {
            ChildTrains x = village(y -> { });
            due(1, x.lodge(0, 0, 100));
            due(STATE, x.lodge(1, 0, 99));
            due(STATE, x.lodge(1, 0, 0));
            due(STATE, x.fetch(0, 99));
            due(2, x.lodge(1, 0, 100));
            due(3, x.fetch(0, 101));
            due(STATE, x.fetch(1, 100));
            due(STATE, x.lodge(0, 0, 100));
            due(4, x.fetch(1, 101));
            due(5, x.lodge(0, 0, 199));
            due(STATE, x.fetch(0, 198));
            due(6, x.fetch(0, 199));
        });
        Edge.sentence("none ahead of the latest one: a refused one is no EVENT, and its DAY not the latest", () -> {
            ChildTrains x = village(Edge.ordered("m0:-lw2;m0:-fw0;"));
            due(STATE, x.lodge(0, 2, 199));
            due(1, x.lodge(0, 0, 5));
            due(STATE, x.fetch(0, 199));
            due(BAD, x.lodge(0, 0, 199));
            due(BAD, x.lodge(1, 0, 200));
            due(STATE, x.fetch(1, 199));
            due(2, x.lodge(1, 0, 5));
        });
        Edge.sentence("lodge, fetch: STATE, and nothing changes", () -> {
            Edge.Build told = built(x -> {
                x.lodge(0, 0, 10);
                x.lodge(1, 1, 10);
                x.child(1, 9, 0, 0);
                x.house(3, 1, 4, 7, 0);
                Edge.orders(x, "m0:-lw2;m0:-vw2;m0:-fw0;");
            });
            Edge.refused(STATE, told, x -> x.lodge(2, 0, 9));
            Edge.refused(STATE, told, x -> x.lodge(2, 1, 10));
            Edge.refused(STATE, told, x -> x.lodge(0, 1, 10));
            Edge.refused(STATE, told, x -> x.lodge(5, 3, 10));
            Edge.refused(STATE, told, x -> x.lodge(2, 2, 10));
            Edge.refused(STATE, told, x -> x.lodge(0, 2, 10));
            Edge.refused(STATE, told, x -> x.fetch(1, 9));
            Edge.refused(STATE, told, x -> x.fetch(2, 10));
            Edge.refused(STATE, told, x -> x.fetch(0, 10));
        });
    }

    private static void beds() {
        Edge.sentence("a BED is free there", () -> {
            for (int beds = 1; beds <= 4; beds++) {
                ChildTrains x = Edge.made(Edge.children(5, 0, 5, 0, 0).then(Edge.houses(1, 0, beds, 15, 0)));
                for (int c = 0; c < beds; c++) {
                    due(c + 1, x.lodge(c, 0, c));
                }
                due(STATE, x.lodge(4, 0, beds));
                due(0, x.free(0, 199));
                x.fetch(0, beds);
                due(1, x.free(0, 199));
                due(beds + 2, x.lodge(4, 0, beds));
                due(STATE, x.lodge(0, 0, 199));
            }
        });
        Edge.sentence("by all EVENTS so far: left on the same DAY, MOVED or FETCHED", () -> {
            ChildTrains x = village(y -> y.lodge(0, 1, 5));
            due(STATE, x.lodge(1, 1, 5));
            due(2, x.lodge(0, 0, 5));
            due(3, x.lodge(1, 1, 5));
            due(STATE, x.lodge(0, 1, 5));
            due(4, x.fetch(1, 5));
            due(5, x.lodge(0, 1, 5));
        });
        Edge.sentence("free: BEDS of a HOUSE that are free on a DAY", () -> {
            ChildTrains x = village(y -> {
                y.lodge(0, 0, 10);
                y.lodge(1, 0, 10);
                y.lodge(2, 0, 11);
                y.lodge(3, 0, 199);
            });
            Edge.dueRow(new long[] {4, 4, 2, 1, 1, 0}, x.free(0, 0), x.free(0, 9), x.free(0, 10), x.free(0, 11), x.free(0, 198), x.free(0, 199));
            Edge.dueRow(new long[] {1, 1, 4, 4}, x.free(1, 0), x.free(1, 199), x.free(2, 0), x.free(2, 199));
            due(BAD, x.free(3, 0));
        });
        Edge.sentence("free: by the last of one DAY's EVENTS", () -> {
            ChildTrains x = village(y -> {
                y.lodge(0, 1, 10);
                y.lodge(0, 0, 10);
                y.lodge(1, 1, 10);
                y.fetch(1, 10);
            });
            Edge.dueRow(new long[] {1, 1, 4, 3}, x.free(1, 9), x.free(1, 10), x.free(0, 9), x.free(0, 10));
        });
    }

    private static void ruled() {
        Edge.sentence("no RULING there on that DAY is -1 (lodge, if it was at HOME)", () -> {
            ChildTrains x = village(Edge.ordered("m5:-l;"));
            due(1, x.lodge(0, 0, 4));
            due(STATE, x.lodge(1, 0, 5));
            due(2, x.lodge(0, 2, 5));
            due(3, x.fetch(0, 5));
            due(STATE, x.lodge(0, 2, 5));
        });
        Edge.sentence(".. (else move)", () -> {
            ChildTrains x = village(Edge.ordered("m5:-v;"));
            due(1, x.lodge(0, 0, 4));
            due(2, x.lodge(0, 2, 4));
            due(STATE, x.lodge(0, 0, 5));
            due(3, x.lodge(1, 0, 5));
            due(4, x.fetch(0, 5));
            due(5, x.lodge(0, 0, 5));
        });
        Edge.sentence("no RULING there: of the HOUSE it comes into, not of that it leaves", () -> {
            ChildTrains x = village(Edge.ordered("m0:-vw0;"));
            due(1, x.lodge(0, 0, 4));
            due(2, x.lodge(0, 2, 4));
            due(STATE, x.lodge(0, 0, 4));
        });
        Edge.sentence("a RULING of 1 or 0 lets it be", () -> {
            ChildTrains x = village(Edge.ordered("m0:+l;m0:=v;m0:+f;c0:-l;c0:-v;c0:-f;"));
            due(1, x.lodge(0, 0, 4));
            due(2, x.lodge(0, 2, 4));
            due(3, x.fetch(0, 4));
        });
        Edge.sentence("on that DAY: KNOWN there from its DAY and a DELAY on", () -> {
            ChildTrains x = village(Edge.ordered("p99:-l;p99:-f;"));
            x.delay(0, 2, 20);
            due(1, x.lodge(0, 0, 118));
            due(2, x.lodge(1, 0, 118));
            due(STATE, x.lodge(2, 0, 119));
            due(3, x.fetch(0, 118));
            due(STATE, x.fetch(1, 119));
        });
        Edge.sentence("FETCHED: the RULING there (fetch) on that DAY is not -1", () -> {
            ChildTrains x = village(Edge.ordered("m5:-fw0;"));
            due(1, x.lodge(0, 0, 4));
            due(2, x.lodge(1, 2, 4));
            due(STATE, x.fetch(0, 5));
            due(3, x.fetch(1, 5));
            due(4, x.lodge(0, 2, 5));
            due(5, x.fetch(0, 5));
        });
        Edge.sentence("FETCHED: it is in a HOUSE; STATE: it is at HOME", () -> {
            ChildTrains x = village(y -> { });
            due(STATE, x.fetch(0, 0));
            due(1, x.lodge(0, 0, 0));
            due(2, x.fetch(0, 0));
            due(STATE, x.fetch(0, 0));
            due(STATE, x.fetch(0, 199));
            due(3, x.lodge(0, 0, 0));
        });
    }

    /** A child is in house 1, whose only bed it has; 80 EVENTS; orders against all; a girl of 9 whom house 3 does not take. */
    private static void crowded(ChildTrains x) {
        village(x);
        x.house(3, 1, 4, 7, 0);
        x.child(1, 9, 0, 0);
        x.lodge(1, 1, 50);
        events(79, 50).on(x);
        Edge.orders(x, "m60:-l;m60:-v;m60:-f;");
    }

    private static void firstReason() {
        Edge.sentence("lodge: BAD ahead of STATE", () -> {
            Edge.Build told = built(x -> {
                x.lodge(1, 1, 50);
                Edge.orders(x, "m0:-l;m0:-v;m0:-f;");
            });
            for (int day : new int[] {0, 49, 50, 199}) {
                Edge.refused(BAD, told, x -> x.lodge(1, 1, day));
                Edge.refused(BAD, told, x -> x.lodge(5, 1, day));
                Edge.refused(BAD, told, x -> x.lodge(0, 3, day));
                Edge.refused(BAD, told, x -> x.lodge(-1, -1, day));
            }
            Edge.refused(BAD, told, x -> x.lodge(0, 1, -1));
            Edge.refused(BAD, told, x -> x.lodge(0, 1, 200));
        });
        Edge.sentence("lodge: BAD ahead of FULL", () -> {
            Edge.refused(BAD, EdgeDaysTest::crowded, x -> x.lodge(1, 1, 50));
            Edge.refused(BAD, EdgeDaysTest::crowded, x -> x.lodge(6, 0, 50));
            Edge.refused(BAD, EdgeDaysTest::crowded, x -> x.lodge(0, 4, 50));
            Edge.refused(BAD, EdgeDaysTest::crowded, x -> x.lodge(2, 0, 200));
        });
        Edge.sentence("lodge: STATE (DAYS, BED, SORT, RULING) ahead of FULL", () -> {
            Edge.refused(FULL, EdgeDaysTest::crowded, x -> x.lodge(2, 0, 50));
            Edge.refused(STATE, EdgeDaysTest::crowded, x -> x.lodge(2, 0, 49));
            Edge.refused(STATE, EdgeDaysTest::crowded, x -> x.lodge(2, 1, 50));
            Edge.refused(STATE, EdgeDaysTest::crowded, x -> x.lodge(5, 3, 50));
            Edge.refused(STATE, EdgeDaysTest::crowded, x -> x.lodge(2, 0, 60));
            Edge.refused(STATE, EdgeDaysTest::crowded, x -> x.lodge(1, 0, 60));
        });
        Edge.sentence("lodge: BAD: it is there, too: by all EVENTS so far", () -> {
            ChildTrains x = village(y -> y.lodge(0, 0, 5));
            due(BAD, x.lodge(0, 0, 5));
            due(BAD, x.lodge(0, 0, 199));
            due(2, x.lodge(0, 2, 5));
            due(3, x.lodge(0, 0, 5));
            due(4, x.fetch(0, 6));
            due(5, x.lodge(0, 0, 6));
            due(BAD, x.lodge(0, 0, 6));
        });
        Edge.sentence("fetch: BAD ahead of STATE and FULL", () -> {
            Edge.refused(BAD, EdgeDaysTest::crowded, x -> x.fetch(6, 0));
            Edge.refused(BAD, EdgeDaysTest::crowded, x -> x.fetch(-1, 60));
            Edge.refused(BAD, EdgeDaysTest::crowded, x -> x.fetch(1, -1));
            Edge.refused(BAD, EdgeDaysTest::crowded, x -> x.fetch(2, 200));
        });
        Edge.sentence("fetch: STATE (DAYS, it is at HOME, RULING) ahead of FULL", () -> {
            Edge.refused(FULL, EdgeDaysTest::crowded, x -> x.fetch(1, 50));
            Edge.refused(FULL, EdgeDaysTest::crowded, x -> x.fetch(1, 59));
            Edge.refused(STATE, EdgeDaysTest::crowded, x -> x.fetch(1, 49));
            Edge.refused(STATE, EdgeDaysTest::crowded, x -> x.fetch(2, 50));
            Edge.refused(STATE, EdgeDaysTest::crowded, x -> x.fetch(1, 60));
        });
    }

    private static void whereabouts() {
        Edge.sentence("at HOME in the city (NONE: at first, and once it is FETCHED)", () -> {
            ChildTrains x = village(y -> { });
            due(NONE, x.where(0, 0));
            due(NONE, x.where(4, 199));
            x.lodge(0, 2, 3);
            x.fetch(0, 5);
            Edge.dueRow(new long[] {NONE, 2, 2, NONE, NONE}, x.where(0, 2), x.where(0, 3), x.where(0, 4), x.where(0, 5), x.where(0, 199));
        });
        Edge.sentence("WHERE: by all EVENTS of DAYS up to it", () -> {
            ChildTrains x = village(y -> {
                y.lodge(0, 0, 0);
                y.lodge(0, 2, 100);
                y.lodge(0, 1, 100);
                y.lodge(0, 0, 199);
            });
            Edge.dueRow(new long[] {0, 0, 1, 1, 0}, x.where(0, 0), x.where(0, 99), x.where(0, 100), x.where(0, 198), x.where(0, 199));
            due(NONE, x.where(1, 199));
            due(BAD, x.where(5, 0));
        });
        Edge.sentence("IN THE CITY on a DAY: CHILDREN at HOME", () -> {
            due(0, new ChildTrains().city(0));
            ChildTrains x = village(y -> {
                y.lodge(0, 0, 0);
                y.lodge(1, 0, 10);
                y.fetch(0, 10);
                y.fetch(1, 199);
            });
            Edge.dueRow(new long[] {4, 4, 4, 4, 5}, x.city(0), x.city(9), x.city(10), x.city(198), x.city(199));
            x.child(0, 5, 0, 0);
            due(6, x.city(199));
            due(5, x.city(0));
            due(48, Edge.made(Edge.children(48, 0, 5, 0, 0)).city(199));
        });
        Edge.sentence("WHERE: CHILD 47 in HOUSE 23", () -> {
            ChildTrains x = Edge.made(Edge.children(48, 0, 5, 0, 0).then(Edge.houses(24, 0, 1, 15, 0)));
            due(1, x.lodge(47, 23, 199));
            due(23, x.where(47, 199));
            due(NONE, x.where(47, 198));
            due(47, x.city(199));
            due(0, x.free(23, 199));
        });
    }

    private static void paid() {
        Edge.sentence("PAID for a week w (DAYS 7 w .. 7 w + 6): those who are there on its first DAY", () -> {
            ChildTrains x = village(y -> {
                y.lodge(2, 0, 7);
                y.lodge(3, 0, 8);
                y.fetch(2, 14);
                y.fetch(3, 20);
            });
            Edge.dueRow(new long[] {0, 84, 84, 0}, x.paid(0, 0), x.paid(0, 1), x.paid(0, 2), x.paid(0, 3));
        });
        Edge.sentence("PAID: w 0 .. 27", () -> {
            ChildTrains x = village(y -> {
                y.lodge(2, 0, 0);
                y.lodge(3, 0, 189);
                y.lodge(4, 0, 190);
            });
            Edge.dueRow(new long[] {84, 84, 156}, x.paid(0, 0), x.paid(0, 26), x.paid(0, 27));
            Edge.dueRow(new long[] {BAD, BAD}, x.paid(0, 28), x.paid(0, -1));
        });
        Edge.sentence("PAY by its KIND", () -> {
            ChildTrains x = village(y -> {
                y.lodge(2, 0, 0);
                y.lodge(3, 1, 0);
                y.lodge(4, 2, 0);
            });
            Edge.dueRow(new long[] {84, 93, 93}, x.paid(0, 0), x.paid(1, 0), x.paid(2, 0));
        });
        Edge.sentence("k are below 5 years", () -> {
            for (int age = 1; age <= 15; age++) {
                ChildTrains x = Edge.made(Edge.children(1, 0, age, 0, 0));
                x.house(0, 3, 1, 15, 0);
                x.lodge(0, 0, 0);
                due(age < 5 ? 123 : 93, x.paid(0, 0));
            }
        });
        Edge.sentence("k of those who are there on its first DAY", () -> {
            ChildTrains x = village(y -> {
                y.lodge(0, 2, 0);
                y.lodge(1, 2, 7);
                y.lodge(2, 2, 8);
                y.fetch(0, 14);
                y.lodge(1, 0, 15);
                y.lodge(1, 2, 22);
            });
            Edge.dueRow(new long[] {93 + 30, 172 + 60, 172 + 30, 93, 172 + 30}, x.paid(2, 0), x.paid(2, 1), x.paid(2, 2), x.paid(2, 3), x.paid(2, 4));
        });
        Edge.sentence("PAID: none there, and four of four BEDS", () -> {
            ChildTrains x = village(y -> { });
            Edge.dueRow(new long[3], x.paid(0, 0), x.paid(1, 13), x.paid(2, 27));
            for (int c = 0; c < 4; c++) {
                x.lodge(c, 2, 0);
            }
            due(330 + 60, x.paid(2, 27));
        });
    }

    /** House 0 is left on these days, by FETCHED; then whether it is in TROUBLE. */
    private static void trouble(int want, int... days) {
        ChildTrains x = village(y -> {
            for (int day : days) {
                y.lodge(0, 0, day);
                y.fetch(0, day);
            }
        });
        Edge.due(want, x.trouble(0), java.util.Arrays.toString(days));
        due(0, x.trouble(1));
    }

    private static void troubles() {
        Edge.sentence("TROUBLE: four times at least", () -> {
            trouble(0);
            trouble(0, 5);
            trouble(0, 5, 5, 5);
            trouble(1, 5, 5, 5, 5);
            trouble(1, 5, 5, 5, 5, 5);
        });
        Edge.sentence("within 28 DAYS (the fourth at most 27 DAYS behind the first)", () -> {
            trouble(1, 0, 1, 2, 27);
            trouble(0, 0, 1, 2, 28);
            trouble(1, 172, 172, 172, 199);
            trouble(0, 171, 172, 172, 199);
            trouble(1, 100, 127, 127, 127);
            trouble(0, 100, 128, 128, 128);
        });
        Edge.sentence("any four of them", () -> {
            trouble(1, 0, 50, 60, 70, 77);
            trouble(0, 0, 50, 60, 70, 78);
            trouble(0, 0, 10, 20, 30, 40, 50, 60);
            trouble(1, 0, 10, 20, 30, 37, 80, 199);
            trouble(1, 0, 9, 18, 27, 100, 199);
        });
        Edge.sentence("HOUSES which CHILDREN left (MOVED, FETCHED)", () -> {
            ChildTrains x = village(y -> {
                for (int c = 0; c < 4; c++) {
                    y.lodge(c, 0, 10);
                }
                y.lodge(0, 2, 10);
                y.fetch(1, 20);
                y.lodge(2, 2, 30);
            });
            due(0, x.trouble(0));
            x.lodge(3, 1, 37);
            Edge.dueRow(new long[] {1, 0, 0}, x.trouble(0), x.trouble(1), x.trouble(2));
        });
        Edge.sentence("left: coming into a HOUSE is not leaving it", () -> {
            ChildTrains x = village(y -> {
                for (int c = 0; c < 4; c++) {
                    y.lodge(c, 0, 10);
                }
                for (int c = 0; c < 4; c++) {
                    y.lodge(c, 2, 10);
                }
            });
            Edge.dueRow(new long[] {1, 0, 0}, x.trouble(0), x.trouble(1), x.trouble(2));
        });
        Edge.sentence("TROUBLE: once in it, what comes later does not end it", () -> {
            ChildTrains x = village(events(8, 3));
            due(1, x.trouble(0));
            x.lodge(0, 0, 199);
            due(1, x.trouble(0));
        });
    }

    private static void restless() {
        Edge.sentence("RESTLESS: CHILDREN MOVED three times at least", () -> {
            ChildTrains x = village(y -> y.lodge(0, 0, 0));
            due(0, x.restless());
            x.lodge(0, 2, 0);
            x.lodge(0, 0, 0);
            due(0, x.restless());
            x.lodge(0, 2, 199);
            due(1, x.restless());
            x.lodge(0, 0, 199);
            due(1, x.restless());
        });
        Edge.sentence("MOVED: not LODGED, not FETCHED", () -> {
            ChildTrains x = village(events(20, 5));
            due(0, x.restless());
            ChildTrains y = village(z -> { });
            for (int i = 0; i < 3; i++) {
                due(0, y.restless());
                y.lodge(0, 0, i);
                y.lodge(0, 2, i);
                y.fetch(0, i);
            }
            due(1, y.restless());
        });
        Edge.sentence("RESTLESS: each CHILD by itself", () -> {
            ChildTrains x = village(y -> {
                for (int c = 0; c < 3; c++) {
                    y.lodge(c, 0, 0);
                    y.lodge(c, 2, 0);
                }
            });
            due(0, x.restless());
            for (int c = 0; c < 3; c++) {
                x.lodge(c, 0, 1);
                due(c, x.restless());
                x.lodge(c, 2, 1);
                due(c + 1, x.restless());
            }
            due(0, new ChildTrains().restless());
        });
    }

    public static void main(String[] args) {
        lodging();
        beds();
        ruled();
        firstReason();
        whereabouts();
        paid();
        troubles();
        restless();
        Edge.end();
    }
}
