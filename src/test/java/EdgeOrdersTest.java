/** Boundary cases of part 3, the text of THE ORDERS, DELAYS and RULINGS: a test for each sentence. */
public final class EdgeOrdersTest {
    private static final int BAD = Edge.BAD, NONE = Edge.NONE;
    private static final String DIGITS = "0123456789", CONDS = "sakhw!", BEGIN = "m0:+l", ORDER = "m0:+l;";
    /** An order of 20 bytes: thirty of them are a text of 600. */
    private static final String TWENTY = "m10:+l!a<10!a<10k!k;";

    private static void due(long want, long got) {
        Edge.due(want, got);
    }

    private static int read(String text) {
        return Edge.orders(new ChildTrains(), text);
    }

    private static void good(int many, String text) {
        Edge.due(many, read(text), text);
    }

    private static void fault(int place, String text) {
        Edge.due(-10 - place, read(text), text);
    }

    /** Behind the text so far just these bytes can stand; each other one is the FAULT. */
    private static void next(String far, String allowed) {
        for (int sign = 0; sign < 256; sign++) {
            boolean can = allowed.indexOf(sign) >= 0;
            String text = far + (char) sign;
            if (can && sign == ';') {
                Edge.due(0, read(text) < 0 ? 1 : 0, text);
            } else {
                fault(can ? text.length() : far.length(), text);
                // What comes behind a FAULT does not matter.
                fault(can ? text.length() : far.length(), text + (can ? "" : ORDER));
            }
        }
    }

    private static void bytesOfAnOrder() {
        Edge.sentence("each: m, c or p", () -> {
            next("", "mcp");
            next(ORDER, "mcp");
            for (String of : new String[] {"m", "c", "p"}) {
                good(1, of + "0:+l;");
            }
        });
        Edge.sentence("a DAY", () -> {
            next("m", DIGITS);
            next("c", DIGITS);
            next("p", DIGITS);
        });
        Edge.sentence("a DAY (0 .. 99)", () -> {
            for (int day = 0; day <= 99; day++) {
                good(1, "c" + day + ":=v;");
                next("c" + day, day == 0 || day > 9 ? ":" : DIGITS + ":");
            }
            fault(3, "m100:+l;");
            fault(3, "m999:+l;");
            fault(3, "m2147483648:+l;");
            fault(3, "m4294967296:+l;");
        });
        Edge.sentence("Numbers have no 0 ahead of others (DAY)", () -> {
            good(1, "m0:+l;");
            good(1, "m10:+l;");
            fault(2, "m00:+l;");
            fault(2, "m01:+l;");
            fault(2, "m09:+l;");
            fault(2, "m000:+l;");
        });
        Edge.sentence("+ (must), = (may) or - (must not)", () -> {
            next("m0:", "+=-");
            next("m99:", "+=-");
        });
        Edge.sentence("l (lodge), v (move) or f (fetch)", () -> {
            next("m0:+", "lvf");
            next("m0:=", "lvf");
            next("m0:-", "lvf");
        });
        Edge.sentence("then perhaps CONDS; ; at the end", () -> {
            next("m0:+l", CONDS + ";");
            next("c5:=v", CONDS + ";");
            next("p99:-f", CONDS + ";");
        });
    }

    private static void bytesOfConds() {
        Edge.sentence("s0, s1 (SEX)", () -> {
            next(BEGIN + "s", "01");
            next(BEGIN + "s0", CONDS + ";");
            next(BEGIN + "s1", CONDS + ";");
        });
        Edge.sentence("a<n, a>n", () -> next(BEGIN + "a", "<>"));
        Edge.sentence("(AGE, n 0 .. 15)", () -> {
            for (String side : new String[] {"<", ">"}) {
                next(BEGIN + "a" + side, DIGITS);
                for (int n = 0; n <= 15; n++) {
                    good(1, BEGIN + "a" + side + n + ";");
                    next(BEGIN + "a" + side + n, (n == 1 ? "012345" : "") + CONDS + ";");
                }
                fault(8, BEGIN + "a" + side + "16;");
                fault(8, BEGIN + "a" + side + "20;");
                fault(9, BEGIN + "a" + side + "150;");
                fault(8, BEGIN + "a" + side + "99;");
            }
        });
        Edge.sentence("Numbers have no 0 ahead of others (AGE, SEX, KIND, VILLAGE)", () -> {
            fault(8, BEGIN + "a<00;");
            fault(8, BEGIN + "a>01;");
            fault(8, BEGIN + "a<015;");
            fault(7, BEGIN + "s01;");
            fault(7, BEGIN + "h03;");
            fault(7, BEGIN + "w05;");
        });
        Edge.sentence("k (it has KIN)", () -> next(BEGIN + "k", CONDS + ";"));
        Edge.sentence("h and a KIND (0 .. 3) of the HOUSE", () -> {
            next(BEGIN + "h", "0123");
            for (int kind = 0; kind <= 3; kind++) {
                next(BEGIN + "h" + kind, CONDS + ";");
            }
        });
        Edge.sentence("w and a VILLAGE (0 .. 5)", () -> {
            next(BEGIN + "w", "012345");
            for (int village = 0; village <= 5; village++) {
                next(BEGIN + "w" + village, CONDS + ";");
            }
        });
        Edge.sentence("or ! and one of these", () -> {
            next(BEGIN + "!", "sakhw");
            next(BEGIN + "!s", "01");
            next(BEGIN + "!a", "<>");
            next(BEGIN + "!a>", DIGITS);
            next(BEGIN + "!a<1", "012345" + CONDS + ";");
            next(BEGIN + "!k", CONDS + ";");
            next(BEGIN + "!h", "0123");
            next(BEGIN + "!w", "012345");
            next(BEGIN + "k!", "sakhw");
        });
        Edge.sentence("blanks (32) nowhere", () -> {
            String order = "m10:+l!a<12k;";
            for (int place = 0; place <= order.length(); place++) {
                fault(place, order.substring(0, place) + " " + order.substring(place));
            }
        });
    }

    private static void limits() {
        Edge.sentence("ORDER upon ORDER: none at all", () -> {
            ChildTrains x = Edge.made(Edge::world);
            due(4, x.count(2));
            due(0, Edge.orders(x, ""));
            due(0, x.count(2));
            due(0, x.ruling(0, 0, 0, 199));
            due(NONE, x.why(0, 0, 0, 199));
        });
        Edge.sentence("30 ORDERS", () -> {
            for (int n = 1; n <= 30; n++) {
                good(n, ORDER.repeat(n));
            }
        });
        Edge.sentence("of a 31st ORDER its first byte", () -> {
            fault(180, ORDER.repeat(31));
            fault(180, ORDER.repeat(60));
            fault(180, ORDER.repeat(30) + "m");
            fault(180, ORDER.repeat(30) + "c0:+lx");
            next(ORDER.repeat(30), "");
            fault(179, ORDER.repeat(29) + "m0:+l");
            fault(586, TWENTY.repeat(29) + ORDER + BEGIN + "k".repeat(9));
        });
        Edge.sentence("6 CONDS in each at most", () -> {
            good(1, BEGIN + "kkkkkk;");
            good(1, BEGIN + "!s0!a<15!a>0!k!h3!w5;");
            good(2, BEGIN + "kkkkkk;" + BEGIN + "kkkkkk;");
        });
        Edge.sentence("a seventh COND its first byte", () -> {
            next(BEGIN + "kkkkkk", ";");
            next(BEGIN + "s0s1a<0a>15!k!w5", ";");
            fault(11, BEGIN + "kkkkkkk;");
            fault(11, BEGIN + "kkkkkk!k;");
            fault(11, BEGIN + "kkkkkka<16;");
            fault(11, BEGIN + "kkkkkk!!;");
            fault(6 * 29 + 11, ORDER.repeat(29) + BEGIN + "kkkkkkk;");
            fault(12 + 11, BEGIN + "kkkkkk;" + BEGIN + "kkkkkks0;");
        });
        Edge.sentence("the first of two FAULTS", () -> {
            fault(5, "m0:+lx;y");
            fault(11, BEGIN + "kkkkkkk;" + ORDER.repeat(31));
            fault(2, "m00:+l");
        });
        Edge.sentence("a text (600 bytes at most)", () -> {
            ChildTrains x = new ChildTrains();
            due(30, Edge.orders(x, TWENTY.repeat(30)));
            due(30, x.count(2));
            due(0, x.count(4));
            fault(600, TWENTY.repeat(29) + TWENTY.substring(0, 19) + "k");
            fault(599, TWENTY.repeat(29) + TWENTY.substring(0, 19) + " ");
            fault(0, " ".repeat(600));
        });
        Edge.sentence("the text's length, if it ends too early", () -> {
            String text = "m10:+ls0!a<12kh3!w5a>0;";
            for (int n = 1; n < text.length(); n++) {
                fault(n, text.substring(0, n));
                fault(23 + n, text + text.substring(0, n));
            }
            good(1, text);
        });
    }

    private static void becoming() {
        Edge.sentence("THE DRAFT becomes THE ORDERS, and is empty then: how many", () -> {
            ChildTrains x = Edge.made(Edge::world);
            due(2, Edge.orders(x, "m0:-f;p0:+f;"));
            due(2, x.count(2));
            due(0, x.count(4));
            due(NONE, x.why(0, 0, 0, 199));
            due(0, x.why(2, 0, 0, 199));
            due(0, x.orders());
            due(0, x.count(2));
        });
        Edge.sentence("-10 less FAULT: nothing changes", () -> {
            for (String text : new String[] {"m0:-f;m0:-l", "x", "m0:-l;".repeat(31), "m5", "m0:-f;c0:-v!", "m0:-lkkkkkkk;"}) {
                Edge.Build far = x -> {
                    Edge.world(x);
                    x.clear();
                    Edge.type(x, text);
                };
                Edge.unchanged(far, ChildTrains::orders);
                ChildTrains x = Edge.made(far);
                Edge.due(1, x.orders() <= -10 ? 1 : 0, text);
                due(4, x.count(2));
                due(text.length(), x.count(4));
                due(0, x.why(0, 0, 0, 199));
                due(-1, x.ruling(2, 5, 2, 199));
            }
        });
        Edge.sentence("-10 less FAULT: the same text has the same FAULT again, and can be gone on with", () -> {
            ChildTrains x = Edge.made(Edge.typed("m5"));
            due(-12, x.orders());
            due(-12, x.orders());
            Edge.type(x, ":+l;");
            due(1, x.orders());
            due(0, x.orders());
        });
    }

    /** Children 0 to 3: boy and girl, small without KIN, big with KIN; house 0 in village 2. */
    private static Edge.Build four() {
        return Edge.children(1, 0, 4, 0, 0).then(Edge.children(1, 1, 4, 0, 0)).then(Edge.children(1, 0, 12, 1, 0))
            .then(Edge.children(1, 1, 12, 20, 0)).then(Edge.houses(1, 2, 4, 15, 0));
    }

    private static void conditions() {
        Edge.sentence("a<n, a>n hold for each AGE and n", () -> {
            for (int age = 1; age <= 15; age++) {
                ChildTrains x = Edge.made(Edge.children(1, 0, age, 0, 0).then(Edge.houses(1, 0, 1, 15, 0)));
                for (int n = 0; n <= 15; n++) {
                    Edge.orders(x, "m0:+la<" + n + ";c0:-l!a>" + n + ";");
                    Edge.due(age < n ? 1 : age == n ? -1 : 0, x.ruling(0, 0, 0, 0), "AGE " + age + ", n " + n);
                    Edge.orders(x, "m0:+la>" + n + ";c0:-l!a<" + n + ";");
                    Edge.due(age > n ? 1 : age == n ? -1 : 0, x.ruling(0, 0, 0, 0), "AGE " + age + ", n " + n);
                }
            }
        });
        Edge.sentence("s0, s1; k (it has KIN; 0: none)", () -> {
            ChildTrains x = Edge.made(four());
            String[] conds = {"s0", "s1", "!s0", "!s1", "k", "!k"};
            int[] hold = {0b0101, 0b1010, 0b1010, 0b0101, 0b1100, 0b0011};
            for (int i = 0; i < conds.length; i++) {
                Edge.orders(x, "m0:-l" + conds[i] + ";");
                for (int c = 0; c < 4; c++) {
                    Edge.due((hold[i] >> c & 1) == 1 ? 0 : NONE, x.why(0, c, 0, 0), conds[i] + " of child " + c);
                }
            }
        });
        Edge.sentence("h and a KIND, w and a VILLAGE of the HOUSE", () -> {
            for (int kind = 1; kind <= 3; kind++) {
                for (int village = 0; village <= 5; village++) {
                    ChildTrains x = Edge.made(Edge.children(1, 0, 5, 0, 0));
                    x.house(village, kind, 1, 15, 0);
                    for (int v = 0; v <= 5; v++) {
                        Edge.orders(x, "m0:-lw" + v + ";m0:-v!w" + v + ";m0:-fh" + v % 4 + ";");
                        due(v == village ? -1 : 0, x.ruling(0, 0, 0, 0));
                        due(v != village ? -1 : 0, x.ruling(1, 0, 0, 0));
                        due(v % 4 == kind ? -1 : 0, x.ruling(2, 0, 0, 0));
                    }
                }
            }
        });
        Edge.sentence("all of which have to hold", () -> {
            ChildTrains x = Edge.made(four());
            Edge.orders(x, "m0:+l;");
            due(0, x.why(0, 0, 0, 0));
            for (int failing = 0; failing < 6; failing++) {
                String conds = "!k".repeat(failing) + "k" + "!k".repeat(5 - failing);
                due(1, Edge.orders(x, "m0:+l" + conds + ";"));
                due(NONE, x.why(0, 0, 0, 0));
                due(1, Edge.orders(x, "m0:+l" + "!k".repeat(6) + ";"));
                due(0, x.why(0, 0, 0, 0));
            }
        });
        Edge.sentence("CONDS of one ORDER are not those of the next", () -> {
            ChildTrains x = Edge.made(four());
            Edge.orders(x, "c0:+lkkkkkk;p0:-l;");
            due(1, x.why(0, 0, 0, 0));
            due(0, x.why(0, 2, 0, 0));
            Edge.orders(x, "c0:+l;p0:-lk;");
            due(0, x.why(0, 0, 0, 0));
        });
    }

    private static void knowing() {
        Edge.sentence("a DELAY (0 .. 20 DAYS; 0 at first): what it was", () -> {
            ChildTrains x = new ChildTrains();
            for (int v = 0; v < 6; v++) {
                for (int of = 0; of < 3; of++) {
                    due(0, x.delay(v, of, 20));
                    due(20, x.delay(v, of, 3 * v + of));
                    due(BAD, x.delay(v, of, 21));
                }
            }
            for (int v = 0; v < 6; v++) {
                for (int of = 0; of < 3; of++) {
                    due(3 * v + of, x.delay(v, of, 0));
                }
            }
        });
        Edge.sentence("An ORDER is KNOWN in a VILLAGE from its DAY and a DELAY on", () -> {
            for (int day : new int[] {0, 1, 9, 10, 99}) {
                for (int late : new int[] {0, 1, 20}) {
                    ChildTrains x = Edge.made(four().then(Edge.ordered("c" + day + ":-l;")));
                    x.delay(2, 1, late);
                    due(day + late == 0 ? -5 : 0, x.ruling(0, 0, 0, day + late - 1));
                    due(-1, x.ruling(0, 0, 0, day + late));
                    due(-1, x.ruling(0, 0, 0, 199));
                }
            }
        });
        Edge.sentence("a DELAY: of that VILLAGE, by what it is of", () -> {
            String[] bodies = {"m", "c", "p"};
            for (int of = 0; of < 3; of++) {
                for (int set = 0; set < 3; set++) {
                    for (int v = 1; v <= 3; v++) {
                        ChildTrains x = Edge.made(four().then(Edge.ordered(bodies[of] + "5:-l;")));
                        x.delay(v, set, 7);
                        boolean late = set == of && v == 2;
                        due(late ? 0 : -1, x.ruling(0, 0, 0, 5));
                        due(late ? 0 : -1, x.ruling(0, 0, 0, 11));
                        due(-1, x.ruling(0, 0, 0, 12));
                    }
                }
            }
        });
        Edge.sentence("a DELAY outlasts THE ORDERS", () -> {
            ChildTrains x = Edge.made(four());
            x.delay(2, 0, 4);
            Edge.orders(x, "m1:-l;");
            Edge.orders(x, "");
            Edge.orders(x, "m2:-l;");
            due(0, x.ruling(0, 0, 0, 5));
            due(-1, x.ruling(0, 0, 0, 6));
        });
    }

    private static void ruling(String text, int day, int want, int why) {
        ChildTrains x = Edge.made(four().then(Edge.ordered(text)));
        Edge.due(want, x.ruling(0, 0, 0, day), text + " on " + day);
        Edge.due(why, x.why(0, 0, 0, day), text + " on " + day);
    }

    private static void rulings() {
        Edge.sentence("those of the MINISTRY ahead of those of the COUNTY, these ahead of the PARISH's", () -> {
            ruling("m0:+l;c50:-l;p99:-l;", 199, 1, 0);
            ruling("p99:-l;c50:-l;m0:+l;", 199, 1, 2);
            ruling("c0:+l;p99:-l;", 199, 1, 0);
            ruling("p99:-l;c0:+l;", 199, 1, 1);
            ruling("p99:-l;", 199, -1, 0);
            ruling("p0:-l;c5:+l;m9:=l;", 4, -1, 0);
            ruling("p0:-l;c5:+l;m9:=l;", 5, 1, 1);
            ruling("p0:-l;c5:+l;m9:=l;", 9, 0, 2);
        });
        Edge.sentence("of these the latest DAY", () -> {
            ruling("c8:+l;c9:-l;c7:=l;", 199, -1, 1);
            ruling("c9:-l;c10:+l;", 199, 1, 1);
            ruling("c10:+l;c9:-l;", 199, 1, 0);
            ruling("c10:+l;c9:-l;", 9, -1, 1);
            ruling("c99:+l;c98:-l;", 98, -1, 1);
            ruling("c99:+l;c98:-l;", 99, 1, 0);
        });
        Edge.sentence("the latest DAY, whatever the DELAY", () -> {
            ChildTrains x = Edge.made(four().then(Edge.ordered("m3:+l;c9:-l;")));
            x.delay(2, 0, 20);
            due(-1, x.ruling(0, 0, 0, 22));
            due(1, x.ruling(0, 0, 0, 23));
        });
        Edge.sentence("of these the last one in the text", () -> {
            ruling("m9:+l;m9:-l;", 9, -1, 1);
            ruling("m9:-l;m9:+l;", 9, 1, 1);
            ruling("m9:-l;m9:+l;m9:=l;", 9, 0, 2);
            ruling("m9:-l;c9:+l;", 9, -1, 0);
        });
        Edge.sentence("1 must, 0 may, -1 must not; 0 without one. WHY: its place; NONE", () -> {
            ruling("m0:+l;", 0, 1, 0);
            ruling("m0:=l;", 0, 0, 0);
            ruling("m0:-l;", 0, -1, 0);
            ruling("", 0, 0, NONE);
            ruling("m1:-l;", 0, 0, NONE);
            ruling("m0:-lk;", 0, 0, NONE);
            ruling("m0:-v;m0:-f;", 0, 0, NONE);
        });
        Edge.sentence("WHY: its place among ORDERS, 0 .. 29", () -> {
            ruling("p0:-l;" + "p0:-v;".repeat(29), 0, -1, 0);
            ruling("p0:-v;".repeat(29) + "p0:-l;", 0, -1, 29);
            ruling("p0:-l;".repeat(30), 0, -1, 29);
        });
        Edge.sentence("RULING of what is done (0 lodge, 1 move, 2 fetch)", () -> {
            ChildTrains x = Edge.made(four().then(Edge.ordered("m0:-f;m0:+l;m0:=v;")));
            Edge.dueRow(new long[] {1, 0, -1}, x.ruling(0, 0, 0, 0), x.ruling(1, 0, 0, 0), x.ruling(2, 0, 0, 0));
            Edge.dueRow(new long[] {1, 2, 0}, x.why(0, 0, 0, 0), x.why(1, 0, 0, 0), x.why(2, 0, 0, 0));
        });
        Edge.sentence("on a DAY (0 .. 199), of CHILD 47 in HOUSE 23", () -> {
            ChildTrains x = Edge.made(Edge.children(47, 0, 5, 0, 0).then(Edge.children(1, 1, 5, 0, 0))
                .then(Edge.houses(23, 0, 1, 15, 0)).then(Edge.houses(1, 5, 1, 15, 0)).then(Edge.ordered("p99:-ls1w5;")));
            x.delay(5, 2, 20);
            Edge.dueRow(new long[] {0, 0, -1, -1, -5}, x.ruling(0, 47, 23, 0), x.ruling(0, 47, 23, 118),
                x.ruling(0, 47, 23, 119), x.ruling(0, 47, 23, 199), x.ruling(0, 47, 23, 200));
            Edge.dueRow(new long[] {0, -5, -5}, x.ruling(0, 46, 23, 199), x.ruling(0, 48, 23, 199), x.ruling(0, 47, 24, 199));
        });
        Edge.sentence("ruling: -5: BAD; why: BAD", () -> {
            ChildTrains x = Edge.made(four().then(Edge.ordered("m0:-l;")));
            due(-5, x.ruling(3, 0, 0, 0));
            due(BAD, x.why(3, 0, 0, 0));
            due(-5, x.ruling(0, 4, 0, 0));
            due(BAD, x.why(0, 4, 0, 0));
            due(-5, x.ruling(0, 0, 1, 0));
            due(BAD, x.why(0, 0, 1, 0));
        });
    }

    public static void main(String[] args) {
        bytesOfAnOrder();
        bytesOfConds();
        limits();
        becoming();
        conditions();
        knowing();
        rulings();
        Edge.end();
    }
}
