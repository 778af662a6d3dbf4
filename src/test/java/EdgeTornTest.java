/** Boundary cases of part 5, torn labels, PATHS, LESSONS and counts: a test for each sentence. */
public final class EdgeTornTest {
    private static final int BAD = Edge.BAD, NONE = Edge.NONE;

    private static void due(long want, long got) {
        Edge.due(want, got);
    }

    /** Children of rows SEX, AGE, KIN, PARTY, all of the NAME "ab". */
    private static ChildTrains named(int[]... kids) {
        ChildTrains x = new ChildTrains();
        for (int c = 0; c < kids.length; c++) {
            x.child(kids[c][0], kids[c][1], kids[c][2], kids[c][3]);
            Edge.name(x, c, "ab");
        }
        return x;
    }

    private static void question(int want, int[]... kids) {
        due(want, named(kids).torn(Edge.bytes("??"), 2, 2));
    }

    private static int torn(ChildTrains x, String row, int what) {
        return x.torn(Edge.bytes(row), row.length(), what);
    }

    private static void rows() {
        Edge.sentence("a row of at most 8 bytes of a .. z and ?: no other byte", () -> {
            ChildTrains x = named(new int[] {0, 5, 0, 0});
            for (int sign = 0; sign < 256; sign++) {
                boolean can = sign == '?' || sign >= 'a' && sign <= 'z';
                Edge.due(can ? 0 : BAD, x.torn(sign, 1, 0), "byte " + sign);
            }
        });
        Edge.sentence("bytes of a .. z and ?: at each place, for each what", () -> {
            for (int what = 0; what < 3; what++) {
                int asked = what;
                for (int place = 0; place < 8; place++) {
                    for (char sign : new char[] {'`', '{', '>', '@', 'A', ' ', (char) 0, (char) 255, (char) ('a' + 128)}) {
                        StringBuilder t = new StringBuilder("????????");
                        t.setCharAt(place, sign);
                        Edge.due(BAD, torn(Edge.made(Edge::world), t.toString(), asked), "place " + place);
                    }
                }
                Edge.refused(BAD, Edge::world, x -> x.torn(Edge.bytes("ann@"), 4, asked));
            }
        });
        Edge.sentence("torn: the lowest n bytes: those above are nothing", () -> {
            ChildTrains x = named(new int[] {0, 5, 0, 0});
            due(1, x.torn(Edge.bytes("zzzzzzab"), 2, 0));
            due(1, x.torn(-65536L | Edge.bytes("a?"), 2, 0));
            due(1, x.torn(Long.MIN_VALUE | Edge.bytes("?b"), 2, 0));
            due(BAD, x.torn(Edge.bytes("ab"), 3, 0));
            due(BAD, x.torn(Edge.bytes("ab") << 8, 3, 0));
        });
        Edge.sentence("torn: the highest of them first", () -> {
            ChildTrains x = named(new int[] {0, 5, 0, 0});
            due(1, torn(x, "a?", 0));
            due(1, torn(x, "?b", 0));
            due(0, torn(x, "b?", 0));
            due(0, torn(x, "?a", 0));
        });
        Edge.sentence("? (any letter)", () -> {
            ChildTrains x = Edge.made(Edge.children(1, 0, 5, 0, 0));
            for (char letter = 'a'; letter <= 'z'; letter++) {
                Edge.name(x, 0, "" + letter);
                due(1, x.torn('?', 1, 0));
                due(1, x.torn(letter, 1, 0));
                due(0, x.torn(letter == 'a' ? 'b' : letter - 1, 1, 0));
            }
        });
        Edge.sentence("CHILDREN whose NAME is as long", () -> {
            String all = "abcdefgh";
            for (int n = 1; n <= 8; n++) {
                ChildTrains x = Edge.made(Edge.children(1, 0, 5, 0, 0));
                Edge.name(x, 0, all.substring(0, n));
                for (int m = 1; m <= 8; m++) {
                    due(m == n ? 1 : 0, torn(x, "????????".substring(0, m), 0));
                    due(m == n ? 1 : 0, torn(x, all.substring(0, m), 0));
                }
            }
        });
        Edge.sentence(".. and as it tells: each place of 8", () -> {
            ChildTrains x = Edge.made(Edge.children(1, 0, 5, 0, 0));
            Edge.name(x, 0, "mmmmmmmm");
            due(1, torn(x, "mmmmmmmm", 0));
            for (int place = 0; place < 8; place++) {
                for (char sign : new char[] {'l', 'n', 'a', 'z', '?'}) {
                    StringBuilder t = new StringBuilder("mmmmmmmm");
                    t.setCharAt(place, sign);
                    due(sign == '?' ? 1 : 0, torn(x, t.toString(), 0));
                }
            }
        });
        Edge.sentence("how many CANDIDATES: none, one, two, 48; the least one (NONE)", () -> {
            ChildTrains x = Edge.made(Edge.children(48, 0, 5, 0, 0));
            due(0, torn(x, "??", 0));
            due(NONE, torn(x, "??", 1));
            for (int c = 47; c >= 0; c--) {
                Edge.name(x, c, "ab");
                due(48 - c, torn(x, "a?", 0));
                due(c, torn(x, "a?", 1));
            }
            due(0, torn(x, "c?", 0));
            due(NONE, torn(x, "c?", 1));
        });
    }

    private static void questions() {
        int[] boy = {0, 5, 0, 0};
        Edge.sentence("NONE for fewer than two", () -> {
            due(NONE, new ChildTrains().torn('?', 1, 2));
            question(NONE, boy);
            question(0, boy, boy);
            ChildTrains x = named(boy, boy);
            Edge.name(x, 1, "ac");
            due(NONE, torn(x, "?b", 2));
            due(NONE, torn(x, "?d", 2));
            due(0, torn(x, "a?", 2));
        });
        Edge.sentence("QUESTIONS: 0 SEX", () -> question(0, boy, new int[] {1, 5, 0, 0}));
        Edge.sentence("1 AGE of 9 or more", () -> {
            question(1, new int[] {0, 8, 0, 0}, new int[] {0, 9, 0, 0});
            question(1, new int[] {0, 1, 0, 0}, new int[] {0, 15, 0, 0});
            question(0, new int[] {0, 1, 0, 0}, new int[] {0, 8, 0, 0});
            question(0, new int[] {0, 9, 0, 0}, new int[] {0, 15, 0, 0});
        });
        Edge.sentence("2 whether it has KIN (0: none)", () -> {
            question(2, boy, new int[] {0, 5, 1, 0});
            question(2, boy, new int[] {0, 5, 20, 0});
            question(0, new int[] {0, 5, 1, 0}, new int[] {0, 5, 20, 0});
        });
        Edge.sentence("3 its PARTY", () -> {
            question(3, boy, new int[] {0, 5, 0, 7});
            question(3, new int[] {0, 5, 0, 6}, new int[] {0, 5, 0, 7});
        });
        Edge.sentence("by which the greatest number of CANDIDATES with one answer is least", () -> {
            question(3, new int[] {0, 5, 0, 0}, new int[] {1, 5, 0, 1}, new int[] {0, 9, 0, 2});
            question(1, new int[] {0, 5, 0, 0}, new int[] {0, 5, 0, 0}, new int[] {0, 9, 0, 0}, new int[] {1, 9, 0, 0});
            question(2, new int[] {0, 5, 0, 0}, new int[] {0, 5, 0, 0}, new int[] {0, 5, 1, 0}, new int[] {1, 9, 2, 1});
            int[][] all = new int[8][];
            for (int p = 0; p < 8; p++) {
                all[p] = new int[] {p % 2, p % 4 < 2 ? 5 : 9, p < 4 ? 0 : 1, p};
            }
            question(3, all);
        });
        Edge.sentence("of several the first", () -> {
            question(0, new int[] {0, 5, 0, 0}, new int[] {1, 9, 1, 1});
            question(1, new int[] {0, 5, 0, 0}, new int[] {0, 9, 1, 1});
            question(2, new int[] {0, 5, 0, 0}, new int[] {0, 5, 1, 1});
            question(0, boy, boy, boy);
        });
        Edge.sentence("NEXT QUESTION: of CANDIDATES alone", () -> {
            ChildTrains x = named(boy, new int[] {0, 9, 0, 0}, new int[] {1, 5, 0, 1}, new int[] {1, 5, 0, 2}, new int[] {1, 5, 0, 3});
            Edge.name(x, 2, "abc");
            Edge.name(x, 3, "b");
            Edge.name(x, 4, "cb");
            due(1, torn(x, "a?", 2));
        });
        Edge.sentence("NEXT QUESTION of 48", () -> {
            ChildTrains x = new ChildTrains();
            for (int c = 0; c < 48; c++) {
                x.child(c == 0 ? 1 : 0, 5, c < 24 ? 1 : 0, c < 25 ? 0 : 7);
                Edge.name(x, c, "z");
            }
            due(2, torn(x, "?", 2));
        });
        Edge.sentence("NEXT QUESTION of 48 whom no QUESTION tells apart: the first", () -> {
            ChildTrains x = Edge.made(Edge.children(48, 1, 15, 20, 7));
            for (int c = 0; c < 48; c++) {
                Edge.name(x, c, "z");
            }
            due(48, torn(x, "?", 0));
            due(0, torn(x, "?", 2));
        });
    }

    /** Parties 0, 1 .. of so many children. */
    private static Edge.Build parties(int... sizes) {
        return x -> {
            for (int p = 0; p < sizes.length; p++) {
                Edge.children(sizes[p], 0, 5, 0, p).on(x);
            }
        };
    }

    /** A train with seats goes to a village with beds (a multiple of four, or up to four). */
    private static Edge.Build line(int train, int seats, int village, int beds) {
        return x -> {
            x.train(train, 2, seats);
            x.train(train, 4, village);
            for (int b = beds; b > 0; b -= 4) {
                x.house(village, 1, Math.min(4, b), 0, 0);
            }
        };
    }

    private static void paths(ChildTrains x, int children, int trains) {
        Edge.due(children, x.paths(0), "CHILDREN");
        Edge.due(trains, x.paths(1), "TRAINS");
    }

    private static void allPaths() {
        Edge.sentence("PATHS: no CHILDREN, no SEATS, no BEDS", () -> {
            paths(new ChildTrains(), 0, 0);
            paths(Edge.made(line(0, 48, 0, 4)), 0, 0);
            paths(Edge.made(parties(1).then(line(0, 0, 0, 4))), 0, 0);
            paths(Edge.made(parties(1).then(line(0, 0, 0, 4)).then(Edge.houses(1, 5, 4, 15, 0))), 0, 0);
            paths(Edge.made(parties(2).then(line(0, 48, 0, 0))), 0, 0);
            paths(Edge.made(parties(2).then(line(0, 48, 0, 4))), 2, 1);
        });
        Edge.sentence("each PARTY goes as a whole by one TRAIN, or stays", () -> {
            paths(Edge.made(parties(5).then(line(0, 4, 0, 8)).then(line(1, 4, 1, 8))), 0, 0);
            paths(Edge.made(parties(5, 4).then(line(0, 4, 0, 8)).then(line(1, 4, 1, 8))), 4, 1);
            paths(Edge.made(parties(5, 4).then(line(0, 4, 0, 8)).then(line(1, 5, 1, 8))), 9, 2);
        });
        Edge.sentence("a TRAIN takes PARTIES within its SEATS", () -> {
            for (int seats = 1; seats <= 7; seats++) {
                paths(Edge.made(parties(1, 2, 4).then(line(0, seats, 0, 8))), seats, 1);
            }
            paths(Edge.made(parties(3, 3).then(line(0, 5, 0, 8))), 3, 1);
            paths(Edge.made(parties(3, 3).then(line(0, 6, 0, 8))), 6, 1);
        });
        Edge.sentence("no more CHILDREN than all its HOUSES have BEDS", () -> {
            paths(Edge.made(parties(3, 3).then(line(0, 48, 0, 3))), 3, 1);
            paths(Edge.made(parties(3, 3).then(line(0, 48, 0, 5))), 3, 1);
            paths(Edge.made(parties(3, 3).then(line(0, 48, 0, 6))), 6, 1);
            paths(Edge.made(parties(3).then(line(0, 48, 0, 2))), 0, 0);
            paths(Edge.made(parties(3).then(line(0, 48, 0, 2)).then(Edge.houses(1, 1, 4, 15, 0))), 0, 0);
        });
        Edge.sentence("a VILLAGE gets one TRAIN at most", () -> {
            paths(Edge.made(parties(3, 3).then(line(0, 3, 5, 8)).then(line(1, 3, 5, 0))), 3, 1);
            paths(Edge.made(parties(3, 2).then(line(0, 2, 5, 8)).then(line(5, 3, 5, 0))), 3, 1);
            paths(Edge.made(parties(3, 2).then(line(5, 2, 5, 8)).then(line(0, 3, 5, 0))), 3, 1);
            paths(Edge.made(parties(3, 3).then(line(0, 3, 5, 8)).then(line(1, 3, 4, 4))), 6, 2);
        });
        Edge.sentence("PATHS: by SEATS and VILLAGE alone, not by when a TRAIN stands there or what HOUSES TAKE", () -> {
            ChildTrains x = Edge.made(parties(3).then(line(2, 3, 3, 3)));
            paths(x, 3, 1);
            x.train(2, 0, 300);
            x.party(0, 0, 5);
            paths(x, 3, 1);
        });
    }

    private static void bestPaths() {
        Edge.sentence("BEST PATHS: the most CHILDREN that go", () -> {
            paths(Edge.made(parties(3, 4, 5).then(line(0, 8, 0, 8))), 8, 1);
            paths(Edge.made(parties(3, 4, 5).then(line(0, 7, 0, 8)).then(line(1, 5, 1, 8))), 12, 2);
            paths(Edge.made(parties(3, 4, 5).then(line(0, 6, 0, 8)).then(line(1, 6, 1, 8))), 9, 2);
        });
        Edge.sentence("of several the fewest TRAINS with any of them", () -> {
            paths(Edge.made(parties(2, 2).then(line(0, 2, 0, 4)).then(line(1, 2, 1, 4)).then(line(2, 4, 2, 4))), 4, 1);
            paths(Edge.made(parties(2, 2).then(line(0, 4, 0, 4)).then(line(1, 2, 1, 4)).then(line(2, 2, 2, 4))), 4, 1);
            paths(Edge.made(parties(1, 1, 1).then(line(0, 1, 0, 4)).then(line(1, 1, 1, 4)).then(line(2, 2, 2, 4))), 3, 2);
        });
        Edge.sentence("the most CHILDREN ahead of the fewest TRAINS", () -> {
            paths(Edge.made(parties(4, 1).then(line(0, 4, 0, 4)).then(line(1, 1, 1, 4))), 5, 2);
            paths(Edge.made(parties(3, 3, 1).then(line(0, 3, 0, 4)).then(line(1, 3, 1, 4))), 6, 2);
            paths(Edge.made(parties(1, 3, 3).then(line(0, 3, 0, 4)).then(line(1, 3, 1, 4))), 6, 2);
        });
        Edge.sentence("one PARTY of eight, whichever", () -> {
            for (int p = 0; p < 8; p++) {
                int[] sizes = {2, 2, 2, 2, 2, 2, 2, 2};
                sizes[p] = 1;
                paths(Edge.made(parties(sizes).then(line(3, 1, 4, 4))), 1, 1);
            }
        });
        Edge.sentence("BEST PATHS as all is told now, asked before or not", () -> {
            ChildTrains x = Edge.made(parties(3, 2).then(line(0, 3, 0, 4)).then(line(1, 2, 1, 4)));
            paths(x, 5, 2);
            x.train(0, 2, 0);
            paths(x, 2, 1);
            x.train(1, 2, 0);
            paths(x, 0, 0);
            x.train(1, 2, 48);
            paths(x, 3, 1);
            x.house(1, 1, 1, 0, 0);
            paths(x, 5, 1);
            x.child(0, 5, 0, 1);
            paths(x, 3, 1);
        });
        Edge.sentence("each PARTY that has CHILDREN: one without has no TRAIN", () -> {
            paths(Edge.made(parties(0, 0, 0, 0, 0, 0, 0, 2).then(line(0, 2, 0, 4)).then(line(1, 2, 1, 4))), 2, 1);
            paths(Edge.made(parties(3, 0, 0).then(line(0, 2, 0, 4)).then(line(1, 2, 1, 4))), 0, 0);
        });
        Edge.sentence("all eight PARTIES, all six TRAINS", () -> {
            Edge.Build six = line(0, 1, 0, 4).then(line(1, 1, 1, 4)).then(line(2, 1, 2, 4)).then(line(3, 1, 3, 4))
                .then(line(4, 1, 4, 4)).then(line(5, 1, 5, 4));
            paths(Edge.made(parties(1, 1, 1, 1, 1, 1, 1, 1).then(six)), 6, 6);
            ChildTrains x = Edge.made(parties(1, 1, 1, 1, 1, 1, 1, 1).then(six));
            x.train(5, 2, 2);
            paths(x, 7, 6);
            x.train(0, 2, 2);
            paths(x, 8, 6);
            x.train(0, 2, 4);
            paths(x, 8, 4);
            x.train(5, 2, 4);
            paths(x, 8, 2);
        });
        Edge.sentence("all 48 CHILDREN by one TRAIN of 48 SEATS", () -> {
            paths(Edge.made(parties(6, 6, 6, 6, 6, 6, 6, 6).then(line(5, 48, 5, 48))), 48, 1);
            paths(Edge.made(parties(6, 6, 6, 6, 6, 6, 6, 6).then(line(5, 47, 5, 48))), 42, 1);
            paths(Edge.made(parties(6, 6, 6, 6, 6, 6, 6, 6).then(line(5, 48, 5, 47))), 42, 1);
            paths(Edge.made(parties(48).then(line(5, 48, 5, 48))), 48, 1);
            paths(Edge.made(parties(48).then(line(5, 47, 5, 48))), 0, 0);
        });
    }

    /** HOURS of CLASS i, hour by hour in the words of the document. */
    private static int taught(int classes, int each, int hours, int i) {
        int[] had = new int[classes];
        for (int hour = 0; hour < hours; hour++) {
            boolean[] now = new boolean[classes];
            for (int n = 0; n < each; n++) {
                int pick = -1;
                for (int c = 0; c < classes; c++) {
                    if (!now[c] && (pick < 0 || had[c] < had[pick])) {
                        pick = c;
                    }
                }
                now[pick] = true;
            }
            for (int c = 0; c < classes; c++) {
                had[c] += now[c] ? 1 : 0;
            }
        }
        return had[i];
    }

    private static void lessons() {
        Edge.sentence("in each HOUR the lesser of r, t (and c) CLASSES are taught", () -> {
            ChildTrains x = new ChildTrains();
            due(1, x.lessons(1, 1, 1, 1, 1, 0));
            Edge.dueRow(new long[] {1, 0}, x.lessons(9, 1, 9, 1, 1, 0), x.lessons(9, 1, 9, 1, 1, 1));
            Edge.dueRow(new long[] {1, 0}, x.lessons(9, 9, 1, 1, 1, 0), x.lessons(9, 9, 1, 1, 1, 1));
            Edge.dueRow(new long[] {1, 0}, x.lessons(9, 8, 9, 1, 1, 7), x.lessons(9, 8, 9, 1, 1, 8));
            Edge.dueRow(new long[] {1, 0}, x.lessons(9, 9, 8, 1, 1, 7), x.lessons(9, 9, 8, 1, 1, 8));
            due(1, x.lessons(9, 9, 9, 1, 1, 8));
            due(300, x.lessons(1, 9, 9, 10, 30, 0));
        });
        Edge.sentence("those first that had fewest by then, of like ones the least number", () -> {
            ChildTrains x = new ChildTrains();
            Edge.dueRow(new long[] {2, 1, 1}, x.lessons(3, 2, 2, 2, 1, 0), x.lessons(3, 2, 2, 2, 1, 1), x.lessons(3, 2, 2, 2, 1, 2));
            Edge.dueRow(new long[] {2, 2, 1, 1}, x.lessons(4, 3, 9, 2, 1, 0), x.lessons(4, 3, 9, 2, 1, 1),
                x.lessons(4, 3, 9, 2, 1, 2), x.lessons(4, 3, 9, 2, 1, 3));
        });
        Edge.sentence("how many HOURS a CLASS has in d DAYS: by then is over all DAYS", () -> {
            ChildTrains x = new ChildTrains();
            Edge.dueRow(new long[] {1, 1}, x.lessons(2, 1, 1, 1, 2, 0), x.lessons(2, 1, 1, 1, 2, 1));
            Edge.dueRow(new long[] {34, 33}, x.lessons(9, 1, 1, 10, 30, 2), x.lessons(9, 1, 1, 10, 30, 3));
        });
        Edge.sentence("LESSONS: all CLASSES, HOURS and DAYS, taught hour by hour", () -> {
            for (int c = 1; c <= 9; c++) {
                for (int each = 1; each <= c; each++) {
                    for (int h : new int[] {1, 2, 3, 7, 10}) {
                        for (int d : new int[] {1, 2, 5, 29, 30}) {
                            ChildTrains x = new ChildTrains();
                            for (int i = 0; i < c; i++) {
                                due(taught(c, each, h * d, i), x.lessons(c, each, 9, h, d, i));
                                due(taught(c, each, h * d, i), x.lessons(c, 9, each, h, d, i));
                            }
                        }
                    }
                }
            }
        });
    }

    private static void counts() {
        Edge.sentence("0 CHILDREN, 1 HOUSES, 2 ORDERS, 3 EVENTS, 4 bytes of THE DRAFT: none of each", () -> {
            ChildTrains x = new ChildTrains();
            Edge.dueRow(new long[5], x.count(0), x.count(1), x.count(2), x.count(3), x.count(4));
        });
        Edge.sentence("count: each by itself", () -> {
            ChildTrains x = Edge.made(Edge.children(1, 0, 5, 0, 0));
            x.house(0, 1, 1, 15, 0);
            x.house(0, 1, 1, 15, 0);
            Edge.orders(x, "m0:+l;".repeat(3));
            x.lodge(0, 0, 0);
            x.lodge(0, 1, 0);
            x.fetch(0, 0);
            x.lodge(0, 0, 0);
            x.type(0, 5);
            Edge.dueRow(new long[] {1, 2, 3, 4, 5}, x.count(0), x.count(1), x.count(2), x.count(3), x.count(4));
        });
        Edge.sentence("count: as many as there may be", () -> {
            ChildTrains x = Edge.made(Edge.children(48, 0, 5, 0, 0).then(Edge.houses(24, 0, 4, 15, 0))
                .then(Edge.ordered("m0:+l;".repeat(30))));
            for (int e = 0; e < 80; e++) {
                x.lodge(e % 48, e < 48 ? e / 4 : 12 + (e - 48) / 4, 0);
            }
            for (int i = 0; i < 75; i++) {
                x.type(0, 8);
            }
            Edge.dueRow(new long[] {48, 24, 30, 80, 600}, x.count(0), x.count(1), x.count(2), x.count(3), x.count(4));
            Edge.dueRow(new long[] {-3, -3, -3, -3, -3}, x.child(0, 5, 0, 0), x.house(0, 1, 1, 0, 0), x.type(0, 1), x.lodge(47, 23, 0), x.fetch(47, 0));
            Edge.dueRow(new long[] {48, 24, 30, 80, 600}, x.count(0), x.count(1), x.count(2), x.count(3), x.count(4));
        });
    }

    public static void main(String[] args) {
        rows();
        questions();
        allPaths();
        bestPaths();
        lessons();
        counts();
        Edge.end();
    }
}
