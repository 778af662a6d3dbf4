/** Boundary cases of part 2, houses, halls, PAY and BEST LODGING: a test for each sentence. */
public final class EdgeHousesTest {
    private static final int BAD = Edge.BAD, STATE = Edge.STATE, FULL = Edge.FULL, NONE = Edge.NONE;

    private static void due(long want, long got) {
        Edge.due(want, got);
    }

    /** The houses that all children, by numbers, are chosen into. */
    private static void chosen(ChildTrains x, int... want) {
        for (int c = 0; c < want.length; c++) {
            Edge.due(want[c], x.chosen(c), "child " + c);
        }
    }

    private static void best(ChildTrains x, int village, int over, int parted) {
        Edge.due(over, x.best(village, 0), "OVER");
        Edge.due(parted, x.best(village, 1), "PARTED");
    }

    /** Children of rows SEX, AGE, KIN whom train 0 brings to village 0. */
    private static Edge.Build hallOf(int[]... kids) {
        return x -> {
            Edge.brought().on(x);
            for (int[] k : kids) {
                x.child(k[0], k[1], k[2], 0);
            }
        };
    }

    private static Edge.Build ages(int... ages) {
        return x -> {
            Edge.brought().on(x);
            for (int age : ages) {
                x.child(0, age, 0, 0);
            }
        };
    }

    private static Edge.Build kins(int... kins) {
        return x -> {
            Edge.brought().on(x);
            for (int kin : kins) {
                x.child(0, 5, kin, 0);
            }
        };
    }

    private static Edge.Build full() {
        return Edge.houses(24, 5, 2, 15, 1);
    }

    private static void houses() {
        Edge.sentence("HOUSES (24 at most): its number", () -> {
            ChildTrains x = new ChildTrains();
            for (int h = 0; h < 24; h++) {
                due(h, x.house(h % 6, 1 + h % 3, 1 + h % 4, h % 16, h % 4));
                due(h + 1, x.count(1));
            }
            due(FULL, x.house(0, 1, 1, 0, 0));
            due(FULL, x.house(5, 3, 4, 15, 3));
            due(24, x.count(1));
            for (int h = 0; h < 24; h++) {
                due(1 + h % 4, x.free(h, 0));
            }
        });
        Edge.sentence("house: FULL, and nothing changes", () -> Edge.refused(FULL,
            full().then(Edge::world), x -> x.house(1, 3, 4, 15, 3)));
        Edge.sentence("house: BAD ahead of FULL", () -> {
            Edge.refused(BAD, full(), x -> x.house(6, 1, 1, 0, 0));
            Edge.refused(BAD, full(), x -> x.house(0, 0, 1, 0, 0));
            Edge.refused(BAD, full(), x -> x.house(0, 4, 1, 0, 0));
            Edge.refused(BAD, full(), x -> x.house(0, 1, 5, 0, 0));
            Edge.refused(BAD, full(), x -> x.house(0, 1, 1, 16, 0));
            Edge.refused(BAD, full(), x -> x.house(0, 1, 1, 0, 4));
        });
        Edge.sentence("house: a BAD one takes no number", () -> {
            ChildTrains x = new ChildTrains();
            due(BAD, x.house(0, 0, 1, 0, 0));
            due(0, x.house(0, 1, 1, 0, 0));
            due(BAD, x.house(0, 1, 0, 0, 0));
            due(1, x.house(0, 1, 1, 0, 0));
        });
        Edge.sentence("BEDS 1 .. 4: as many are chosen, and no more", () -> {
            for (int beds = 1; beds <= 4; beds++) {
                for (int habit = 0; habit < 4; habit++) {
                    ChildTrains x = Edge.made(kins(1, 1, 1, 1, 1).then(Edge.houses(1, 0, beds, 15, habit)));
                    due(5 - beds, x.hall(0, 1));
                    due(0, x.chosen(beds - 1));
                    due(NONE, x.chosen(beds));
                }
            }
        });
        Edge.sentence("TAKE SORTS (bits 0 .. 3): each of the sixteen", () -> {
            for (int takes = 0; takes < 16; takes++) {
                ChildTrains x = Edge.made(hallOf(new int[] {0, 8, 0}, new int[] {1, 8, 0}, new int[] {0, 9, 0}, new int[] {1, 9, 0})
                    .then(Edge.houses(1, 0, 4, takes, 0)));
                for (int c = 0; c < 4; c++) {
                    due((takes & 1 << c) != 0 ? 0 : NONE, x.chosen(c));
                    due((takes & 1 << c) != 0 ? 1 : STATE, lodged(takes, c));
                }
            }
        });
    }

    /** What a house that TAKES so answers to a child of a SORT. */
    private static int lodged(int takes, int sort) {
        ChildTrains x = Edge.made(Edge.children(1, sort & 1, sort < 2 ? 8 : 9, 0, 0).then(Edge.houses(1, 0, 1, takes, 0)));
        return x.lodge(0, 0, 0);
    }

    private static void halls() {
        Edge.sentence("A HALL: CHILDREN whom THE BOARDING brought to a VILLAGE", () -> {
            ChildTrains x = Edge.made(Edge.children(5, 0, 5, 0, 0).then(Edge.train(0, 0, 2, 48, 5))
                .then(Edge.train(3, 0, 1, 48, 5)).then(Edge.train(4, 0, 1, 48, 0)));
            Edge.dueRow(new long[] {1, 0, 0, 0, 0, 3}, x.hall(0, 0), x.hall(1, 0), x.hall(2, 0), x.hall(3, 0), x.hall(4, 0), x.hall(5, 0));
            due(1, x.mixed(1));
        });
        Edge.sentence("A HALL: none, and all 48", () -> {
            ChildTrains x = Edge.made(Edge.children(48, 0, 5, 1, 0));
            Edge.dueRow(new long[3], x.hall(0, 0), x.hall(0, 1), x.hall(0, 2));
            Edge.brought().on(x);
            Edge.dueRow(new long[] {48, 48, 48 * 47 / 2}, x.hall(0, 0), x.hall(0, 1), x.hall(0, 2));
            for (int h = 0; h < 12; h++) {
                x.house(0, 1, 4, 15, h % 4);
            }
            Edge.dueRow(new long[] {48, 0, 48 * 47 / 2 - 12 * 6}, x.hall(0, 0), x.hall(0, 1), x.hall(0, 2));
        });
        Edge.sentence("CHOOSING: HOUSES of it, in order", () -> {
            ChildTrains x = Edge.made(ages(5, 5, 5).then(Edge.houses(1, 1, 4, 15, 0))
                .then(Edge.houses(2, 0, 1, 15, 2)).then(Edge.houses(1, 5, 4, 15, 0)));
            chosen(x, 1, 2, NONE);
            due(1, x.hall(0, 1));
            due(0, x.hall(1, 1));
        });
        Edge.sentence("of those not yet chosen", () -> chosen(Edge.made(ages(3, 9, 7).then(Edge.houses(3, 0, 1, 15, 0))), 2, 0, 1));
        Edge.sentence("fills its BEDS one by one with whom it TAKES", () -> {
            ChildTrains x = Edge.made(hallOf(new int[] {1, 15, 0}, new int[] {0, 8, 0}, new int[] {1, 9, 0}, new int[] {0, 2, 0})
                .then(Edge.houses(1, 0, 4, 1, 0)).then(Edge.houses(1, 0, 1, 8, 1)));
            chosen(x, NONE, 0, 1, 0);
        });
        Edge.sentence("Those whom none takes are OVER: no HOUSE, none with a BED left, none for the SORT", () -> {
            due(2, Edge.made(ages(5, 5)).hall(0, 1));
            due(1, Edge.made(ages(5, 5).then(Edge.houses(1, 0, 1, 15, 0))).hall(0, 1));
            due(2, Edge.made(ages(5, 5).then(Edge.houses(6, 0, 4, 14, 0))).hall(0, 1));
            due(2, Edge.made(ages(5, 5).then(Edge.houses(6, 0, 4, 0, 0))).hall(0, 1));
            due(0, Edge.made(ages(5, 5).then(Edge.houses(1, 0, 4, 1, 0))).hall(0, 1));
        });
        Edge.sentence("chosen: NONE for one who is LEFT, or OVER", () -> {
            ChildTrains x = Edge.made(Edge.children(3, 0, 5, 0, 0).then(Edge.houses(1, 0, 1, 15, 0)).then(Edge.train(0, 0, 2, 48, 0)));
            chosen(x, 0, NONE, NONE);
            due(1, x.hall(0, 1));
        });
        Edge.sentence("chosen: in the VILLAGE to which THE BOARDING brings it now", () -> {
            ChildTrains x = Edge.made(Edge.children(1, 0, 5, 0, 0).then(Edge.train(3, 0, 1, 1, 4)).then(Edge.houses(1, 0, 1, 15, 0))
                .then(Edge.houses(1, 4, 1, 15, 0)).then(Edge.houses(1, 5, 1, 15, 0)));
            due(1, x.chosen(0));
            x.train(3, 4, 5);
            due(2, x.chosen(0));
            x.train(3, 4, 3);
            due(NONE, x.chosen(0));
            x.train(3, 4, 0);
            due(0, x.chosen(0));
            x.train(3, 2, 0);
            due(NONE, x.chosen(0));
        });
        Edge.sentence("chosen: HOUSE 23 for CHILD 47", () -> {
            ChildTrains x = Edge.made(Edge.brought().then(Edge.children(47, 0, 5, 0, 0)).then(Edge.children(1, 1, 15, 0, 0))
                .then(Edge.houses(23, 0, 1, 1, 0)).then(Edge.houses(1, 0, 1, 8, 0)));
            due(23, x.chosen(47));
            due(22, x.chosen(22));
            due(NONE, x.chosen(23));
        });
    }

    private static void habits() {
        Edge.sentence("HABIT 0: the eldest first (Of several the least number.)", () -> {
            chosen(Edge.made(ages(1, 15, 14, 15).then(Edge.houses(4, 0, 1, 15, 0))), 3, 0, 2, 1);
            chosen(Edge.made(ages(8, 9, 8, 9).then(Edge.houses(4, 0, 1, 15, 0))), 2, 0, 3, 1);
            chosen(Edge.made(ages(1, 2, 3).then(Edge.houses(1, 0, 2, 15, 0))), NONE, 0, 0);
        });
        Edge.sentence("1: the youngest (Of several the least number.)", () -> {
            chosen(Edge.made(ages(15, 1, 2, 1).then(Edge.houses(4, 0, 1, 15, 1))), 3, 0, 2, 1);
            chosen(Edge.made(ages(3, 2, 1).then(Edge.houses(1, 0, 2, 15, 1))), NONE, 0, 0);
        });
        Edge.sentence("2: the least number", () -> chosen(Edge.made(ages(5, 1, 15).then(Edge.houses(3, 0, 1, 15, 2))), 0, 1, 2));
        Edge.sentence("3: one who has KIN in this HOUSE by then", () -> {
            chosen(Edge.made(kins(1, 2, 3, 1, 1).then(Edge.houses(1, 0, 3, 15, 3))), 0, NONE, NONE, 0, 0);
            chosen(Edge.made(kins(20, 2, 3, 20).then(Edge.houses(1, 0, 2, 15, 3))), 0, NONE, NONE, 0);
        });
        Edge.sentence("3: .. else as 2", () -> {
            chosen(Edge.made(kins(1, 2, 3).then(Edge.houses(1, 0, 2, 15, 3))), 0, 0, NONE);
            chosen(Edge.made(kins(1, 2, 2, 3, 1).then(Edge.houses(1, 0, 4, 15, 3))), 0, 0, 0, NONE, 0);
        });
        Edge.sentence("3: (Of several the least number.)", () ->
            chosen(Edge.made(kins(1, 2, 1, 1).then(Edge.houses(1, 0, 2, 15, 3))), 0, NONE, 0, NONE));
        Edge.sentence("3: KIN of any who is in this HOUSE by then, not of the first alone", () ->
            chosen(Edge.made(kins(1, 2, 3, 2).then(Edge.houses(1, 0, 3, 15, 3))), 0, 0, NONE, 0));
        Edge.sentence("3: KIN in another HOUSE is not KIN in this one", () ->
            chosen(Edge.made(kins(1, 2, 3, 1).then(Edge.houses(2, 0, 1, 15, 3)).then(Edge.houses(1, 0, 1, 15, 3))), 0, 1, 2, NONE));
        Edge.sentence("3: those of KIN 0 have none", () ->
            chosen(Edge.made(kins(0, 1, 0).then(Edge.houses(1, 0, 2, 15, 3))), 0, 0, NONE));
        Edge.sentence("3: KIN whom it does not TAKE stays behind", () ->
            chosen(Edge.made(hallOf(new int[] {0, 5, 1}, new int[] {0, 5, 2}, new int[] {1, 5, 1})
                .then(Edge.houses(1, 0, 2, 1, 3))), 0, 0, NONE));
    }

    private static void pay() {
        Edge.sentence("HOME 60 n", () -> {
            for (int n = 0; n <= 9; n++) {
                due(60 * n, new ChildTrains().pay(0, n, n));
            }
        });
        Edge.sentence("BILLET up, and 24 for the first one, if n is above 0, and 12 for each other one", () -> {
            int[] want = {0, 84, 156, 228, 300, 372, 444, 516, 588, 660};
            for (int n = 0; n <= 9; n++) {
                due(want[n], new ChildTrains().pay(1, n, n));
                due(want[n], new ChildTrains().pay(1, n, 0));
            }
        });
        Edge.sentence("HOSTEL up, and a tenth of it, rounded up", () -> {
            int[] want = {0, 93, 172, 251, 330, 410, 489, 568, 647, 726};
            for (int n = 0; n <= 9; n++) {
                due(want[n], new ChildTrains().pay(2, n, n));
                due(want[n], new ChildTrains().pay(2, n, 0));
            }
        });
        Edge.sentence("NURSERY up, and 30 k", () -> {
            int[] want = {0, 93, 172, 251, 330, 410, 489, 568, 647, 726};
            for (int n = 0; n <= 9; n++) {
                for (int k = 0; k <= n; k++) {
                    due(want[n] + 30 * k, new ChildTrains().pay(3, n, k));
                }
                due(BAD, new ChildTrains().pay(3, n, n + 1));
                due(BAD, new ChildTrains().pay(3, n, -1));
            }
        });
        Edge.sentence("numbers in brackets come to THE TRACE as often as pay() asks that body", () -> {
            ChildTrains x = new ChildTrains();
            due(0, x.trace());
            long sum = 0;
            int[] bodies = {1, 11, 111, 1111};
            for (int kind : new int[] {0, 3, 1, 2, 3, 0}) {
                x.pay(kind, 0, 0);
                sum += bodies[kind];
                due(sum, x.trace());
                due(sum, x.trace());
            }
        });
        Edge.sentence("THE TRACE: a refused pay() asks no body", () -> {
            ChildTrains x = new ChildTrains();
            due(BAD, x.pay(4, 1, 1));
            due(BAD, x.pay(3, 10, 0));
            due(BAD, x.pay(3, 0, 1));
            due(BAD, x.pay(0, -1, 0));
            due(0, x.trace());
        });
        Edge.sentence("THE TRACE: pay() alone, not PAID", () -> {
            ChildTrains x = Edge.made(Edge.children(1, 0, 1, 0, 0));
            x.house(0, 3, 1, 15, 0);
            x.lodge(0, 0, 0);
            due(123, x.paid(0, 0));
            due(0, x.trace());
        });
    }

    private static void parted() {
        Edge.sentence("PARTED: how many two KIN are not in one HOUSE", () -> {
            due(0, Edge.made(kins(1)).hall(0, 2));
            due(0, Edge.made(kins(1, 1).then(Edge.houses(1, 0, 2, 15, 2))).hall(0, 2));
            due(1, Edge.made(kins(1, 1).then(Edge.houses(2, 0, 1, 15, 2))).hall(0, 2));
            due(3, Edge.made(kins(1, 1, 1).then(Edge.houses(3, 0, 1, 15, 2))).hall(0, 2));
            due(2, Edge.made(kins(1, 1, 1).then(Edge.houses(2, 0, 2, 15, 2))).hall(0, 2));
            due(4, Edge.made(kins(1, 1, 1, 1).then(Edge.houses(2, 0, 2, 15, 2))).hall(0, 2));
            due(2, Edge.made(kins(1, 2, 1, 2).then(Edge.houses(2, 0, 2, 15, 2))).hall(0, 2));
        });
        Edge.sentence("PARTED: (OVER ones are in none)", () -> {
            due(1, Edge.made(kins(1, 1)).hall(0, 2));
            due(3, Edge.made(kins(7, 7, 7)).hall(0, 2));
            due(1, Edge.made(kins(1, 1).then(Edge.houses(1, 0, 1, 15, 2))).hall(0, 2));
            due(3, Edge.made(kins(1, 1, 1).then(Edge.houses(1, 0, 1, 15, 2))).hall(0, 2));
        });
        Edge.sentence("PARTED: of a HALL: KIN of two HALLS, and KIN who is LEFT, are none of it", () -> {
            ChildTrains x = Edge.made(Edge.children(4, 0, 5, 1, 0).then(Edge.train(0, 0, 1, 48, 0)).then(Edge.train(1, 0, 2, 48, 1)));
            Edge.dueRow(new long[] {0, 1}, x.hall(0, 2), x.hall(1, 2));
            due(0, x.best(0, 1));
            due(1, x.best(1, 1));
        });
    }

    private static void bestLodging() {
        Edge.sentence("BEST LODGING: no CHILDREN, no HOUSES", () -> {
            best(new ChildTrains(), 0, 0, 0);
            best(Edge.made(Edge.houses(6, 0, 4, 15, 0)), 0, 0, 0);
            best(Edge.made(kins(1, 1, 0)), 0, 3, 1);
        });
        Edge.sentence("(At most 12 CHILDREN ..; else STATE.)", () -> {
            Edge.Build twelve = Edge.brought().then(Edge.children(12, 0, 5, 1, 0));
            best(Edge.made(twelve), 0, 12, 66);
            best(Edge.made(twelve.then(Edge.houses(3, 0, 4, 15, 0))), 0, 0, 66 - 18);
            Edge.Build more = twelve.then(Edge.children(1, 0, 5, 1, 0));
            Edge.refused(STATE, more, x -> x.best(0, 0));
            Edge.refused(STATE, more, x -> x.best(0, 1));
            due(STATE, Edge.made(Edge.brought().then(Edge.children(48, 0, 5, 1, 0))).best(0, 0));
        });
        Edge.sentence("12 CHILDREN there: others who are LEFT, or elsewhere, do not count", () -> {
            ChildTrains x = Edge.made(Edge.children(13, 0, 5, 0, 0).then(Edge.train(0, 0, 300, 12, 0)));
            best(x, 0, 12, 0);
            x.train(0, 2, 13);
            due(STATE, x.best(0, 0));
            Edge.train(1, 0, 1, 1, 5).on(x);
            best(x, 0, 12, 0);
            best(x, 5, 1, 0);
        });
        Edge.sentence("(.. 6 HOUSES there; else STATE.)", () -> {
            for (int village : new int[] {0, 5}) {
                Edge.Build six = Edge.train(0, 0, 300, 48, village).then(Edge.children(7, 0, 5, 0, 0))
                    .then(Edge.houses(6, village, 1, 15, 0));
                best(Edge.made(six), village, 1, 0);
                Edge.Build seven = six.then(Edge.houses(1, village, 1, 0, 0));
                Edge.refused(STATE, seven, x -> x.best(village, 0));
                Edge.refused(STATE, seven, x -> x.best(village, 1));
            }
            due(STATE, Edge.made(Edge.houses(7, 3, 4, 15, 0)).best(3, 0));
            due(STATE, Edge.made(Edge.houses(24, 3, 4, 15, 0)).best(3, 1));
        });
        Edge.sentence("6 HOUSES there: those elsewhere do not count", () -> {
            ChildTrains x = Edge.made(Edge.brought().then(Edge.children(2, 0, 5, 1, 0)).then(Edge.houses(6, 1, 4, 15, 0))
                .then(Edge.houses(6, 0, 1, 15, 0)).then(Edge.houses(7, 2, 4, 15, 0)));
            best(x, 0, 0, 1);
            best(x, 1, 0, 0);
            due(STATE, x.best(2, 0));
        });
        Edge.sentence("best: BAD ahead of STATE", () -> {
            Edge.Build many = Edge.brought().then(Edge.children(13, 0, 5, 1, 0)).then(Edge.houses(7, 0, 1, 15, 0));
            Edge.refused(BAD, many, x -> x.best(0, 2));
            Edge.refused(BAD, many, x -> x.best(0, -1));
            Edge.refused(BAD, many, x -> x.best(6, 0));
            Edge.refused(BAD, many, x -> x.best(-1, 0));
        });
        Edge.sentence("each in a HOUSE of the VILLAGE", () ->
            best(Edge.made(kins(1, 1).then(Edge.houses(1, 1, 4, 15, 0)).then(Edge.houses(1, 0, 1, 15, 0))), 0, 1, 1));
        Edge.sentence(".. that TAKES it", () -> {
            best(Edge.made(hallOf(new int[] {0, 8, 1}, new int[] {0, 9, 1}).then(Edge.houses(2, 0, 4, 1, 0))), 0, 1, 1);
            best(Edge.made(hallOf(new int[] {1, 8, 1}, new int[] {1, 9, 1}).then(Edge.houses(1, 0, 4, 2, 0))
                .then(Edge.houses(1, 0, 4, 8, 0))), 0, 0, 1);
            best(Edge.made(hallOf(new int[] {1, 8, 1}, new int[] {1, 9, 1}).then(Edge.houses(1, 0, 4, 10, 0))), 0, 0, 0);
            best(Edge.made(kins(1, 1).then(Edge.houses(6, 0, 4, 0, 0))), 0, 2, 1);
        });
        Edge.sentence(".. within BEDS", () -> {
            for (int beds = 1; beds <= 4; beds++) {
                int together = beds * (beds - 1) / 2;
                best(Edge.made(kins(1, 1, 1, 1, 1).then(Edge.houses(1, 0, beds, 15, 0))), 0, 5 - beds, 10 - together);
            }
        });
    }

    private static void fewest() {
        Edge.sentence("the fewest OVER", () -> {
            // The house that takes all has to be left to the one whom no other house takes.
            best(Edge.made(hallOf(new int[] {0, 5, 0}, new int[] {1, 5, 0}).then(Edge.houses(1, 0, 1, 3, 0))
                .then(Edge.houses(1, 0, 1, 1, 0))), 0, 0, 0);
            due(1, Edge.made(hallOf(new int[] {0, 5, 0}, new int[] {1, 5, 0}).then(Edge.houses(1, 0, 1, 3, 0))
                .then(Edge.houses(1, 0, 1, 1, 0))).hall(0, 1));
        });
        Edge.sentence("the fewest OVER, whichever SORTS have too few BEDS", () -> {
            for (int few = 1; few < 16; few++) {
                Edge.Build all = hallOf(new int[] {0, 8, 0}, new int[] {1, 8, 0}, new int[] {0, 9, 0}, new int[] {1, 9, 0},
                    new int[] {0, 1, 0}, new int[] {1, 1, 0}, new int[] {0, 15, 0}, new int[] {1, 15, 0});
                ChildTrains x = Edge.made(all.then(Edge.houses(1, 0, 1, few, 0)).then(Edge.houses(2, 0, 4, 15 - few, 0)));
                best(x, 0, 2 * Integer.bitCount(few) - 1, 0);
            }
        });
        Edge.sentence("of these the fewest PARTED", () -> {
            best(Edge.made(kins(1, 1, 1, 2, 2, 2, 3, 3, 3, 4, 4, 4).then(Edge.houses(4, 0, 4, 15, 2))), 0, 0, 0);
            best(Edge.made(kins(0, 1, 1).then(Edge.houses(1, 0, 1, 15, 2)).then(Edge.houses(1, 0, 2, 15, 2))), 0, 0, 0);
            best(Edge.made(kins(1, 1, 0).then(Edge.houses(1, 0, 2, 15, 2)).then(Edge.houses(1, 0, 1, 15, 2))), 0, 0, 0);
            best(Edge.made(kins(1, 1, 0).then(Edge.houses(1, 0, 1, 15, 2)).then(Edge.houses(1, 0, 2, 15, 2))), 0, 0, 0);
            best(Edge.made(kins(1, 2, 1, 2).then(Edge.houses(2, 0, 2, 15, 2))), 0, 0, 0);
            best(Edge.made(kins(1, 2, 3, 1, 2, 3, 1, 2, 3, 1, 2, 3).then(Edge.houses(3, 0, 4, 15, 2))), 0, 0, 0);
            best(Edge.made(kins(1, 1, 1, 2, 2).then(Edge.houses(2, 0, 2, 15, 2))), 0, 1, 2);
        });
        Edge.sentence("the fewest OVER ahead of the fewest PARTED", () -> {
            Edge.Build three = hallOf(new int[] {0, 5, 7}, new int[] {0, 5, 7}, new int[] {1, 5, 0});
            best(Edge.made(three.then(Edge.houses(1, 0, 2, 3, 0)).then(Edge.houses(1, 0, 1, 1, 0))), 0, 0, 1);
            best(Edge.made(three.then(Edge.houses(1, 0, 1, 1, 0)).then(Edge.houses(1, 0, 2, 3, 0))), 0, 0, 1);
        });
        Edge.sentence("BEST LODGING of one HALL after another", () -> {
            Edge.Build two = Edge.children(4, 0, 5, 1, 0).then(Edge.children(4, 0, 9, 2, 1)).then(Edge.train(0, 0, 300, 48, 0))
                .then(Edge.train(1, 0, 300, 48, 1)).then(Edge.houses(2, 0, 4, 15, 0)).then(Edge.houses(1, 1, 4, 1, 0))
                .then(Edge.houses(1, 1, 2, 4, 0));
            ChildTrains x = Edge.made(two);
            x.party(1, 0, 1);
            x.wayOf(1);
            for (int i = 0; i < 3; i++) {
                best(x, 0, 0, 0);
                best(x, 1, 2, 5);
                best(x, 2, 0, 0);
            }
        });
        Edge.sentence("12 CHILDREN, 6 HOUSES: the greatest HALL", () -> {
            ChildTrains x = Edge.made(Edge.brought().then(Edge.children(12, 0, 5, 1, 0)).then(Edge.houses(6, 0, 2, 15, 0)));
            best(x, 0, 0, 60);
            ChildTrains y = Edge.made(kins(1, 2, 3, 4, 5, 6, 6, 5, 4, 3, 2, 1).then(Edge.houses(6, 0, 2, 15, 0)));
            best(y, 0, 0, 0);
            ChildTrains z = Edge.made(kins(1, 2, 3, 4, 5, 6, 6, 5, 4, 3, 2, 1).then(Edge.houses(5, 0, 1, 15, 0))
                .then(Edge.houses(1, 0, 4, 15, 0)));
            best(z, 0, 3, 4);
        });
        Edge.sentence("BEST LODGING as all is told now, asked before or not", () -> {
            ChildTrains x = Edge.made(kins(1, 1, 1));
            best(x, 0, 3, 3);
            x.house(0, 1, 2, 15, 0);
            best(x, 0, 1, 2);
            x.house(0, 1, 4, 15, 0);
            best(x, 0, 0, 0);
            best(x, 1, 0, 0);
            x.child(0, 5, 1, 0);
            x.child(0, 5, 1, 0);
            best(x, 0, 0, 4);
            x.train(0, 4, 1);
            best(x, 1, 5, 10);
            best(x, 0, 0, 0);
            x.train(0, 2, 2);
            best(x, 1, 2, 1);
            x.wayOf(1);
            x.party(0, 0, 1);
            best(x, 1, 0, 0);
        });
    }

    public static void main(String[] args) {
        houses();
        halls();
        habits();
        pay();
        parted();
        bestLodging();
        fewest();
        Edge.end();
    }
}
