/** Boundary cases of part 1, children, parties, trains and THE BOARDING: a test for each sentence. */
public final class EdgeTrainsTest {
    private static final int BAD = Edge.BAD, STATE = Edge.STATE, FULL = Edge.FULL, NONE = Edge.NONE;

    private static void due(long want, long got) {
        Edge.due(want, got);
    }

    /** The minutes at which all children, by numbers, board. */
    private static void minutes(ChildTrains x, int... want) {
        for (int c = 0; c < want.length; c++) {
            Edge.due(want[c], x.boarded(c, 1), "child " + c);
        }
    }

    private static void trains(ChildTrains x, int... want) {
        for (int c = 0; c < want.length; c++) {
            Edge.due(want[c], x.boarded(c, 0), "child " + c);
        }
    }

    private static Edge.Build full() {
        return Edge.children(48, 1, 7, 3, 2);
    }

    private static Edge.Build one() {
        return Edge.children(1, 0, 5, 0, 0);
    }

    private static void nothingYet() {
        Edge.sentence("No CHILDREN, no HOUSES.", () -> {
            ChildTrains x = new ChildTrains();
            for (int what = 0; what < 5; what++) {
                due(0, x.count(what));
            }
            due(0, x.trace());
            long[] got = {x.name(0), x.boarded(0, 0), x.chosen(0), x.why(0, 0, 0, 0), x.lodge(0, 0, 0), x.fetch(0, 0),
                x.where(0, 0), x.paid(0, 0), x.free(0, 0), x.trouble(0)};
            for (long g : got) {
                due(BAD, g);
            }
            due(-5, x.ruling(0, 0, 0, 0));
            Edge.dueRow(new long[12], x.mixed(0), x.mixed(1), x.mixed(2), x.load(0, 0), x.load(NONE, 0), x.restless(),
                x.city(0), x.city(199), x.paths(0), x.paths(1), x.torn('?', 1, 0), x.orders());
            for (int v = 0; v < 6; v++) {
                Edge.dueRow(new long[5], x.hall(v, 0), x.hall(v, 1), x.hall(v, 2), x.best(v, 0), x.best(v, 1));
            }
            due(NONE, x.torn('?', 1, 1));
            due(NONE, x.torn('?', 1, 2));
        });
        Edge.sentence("there is no such thing: a CHILD but no HOUSE, a HOUSE but no CHILD", () -> {
            ChildTrains x = Edge.made(one());
            due(-5, x.ruling(0, 0, 0, 0));
            due(BAD, x.why(0, 0, 0, 0));
            due(BAD, x.lodge(0, 0, 0));
            due(STATE, x.fetch(0, 0));
            due(NONE, x.where(0, 0));
            due(BAD, x.free(0, 0));
            ChildTrains y = Edge.made(Edge.houses(1, 0, 3, 15, 0));
            due(-5, y.ruling(0, 0, 0, 0));
            due(BAD, y.why(0, 0, 0, 0));
            due(BAD, y.lodge(0, 0, 0));
            due(BAD, y.where(0, 0));
            due(3, y.free(0, 0));
        });
        Edge.sentence("used for at most 512 calls: the 512th answers as the first", () -> {
            ChildTrains x = new ChildTrains();
            for (int i = 1; i <= 511; i++) {
                due(996, x.pay(3, 9, 9));
            }
            due(511 * 1111, x.trace());
        });
        Edge.sentence("one object knows nothing of another one", () -> {
            ChildTrains x = Edge.made(Edge::world);
            Edge.made(full().then(Edge::world));
            due(6, x.count(0));
            due(3, x.count(1));
            due(4, x.count(2));
            due(5, x.count(3));
            due(3, x.count(4));
            due(1111, x.trace());
        });
    }

    private static void children() {
        Edge.sentence("CHILDREN (48 at most): its number", () -> {
            ChildTrains x = new ChildTrains();
            for (int c = 0; c < 48; c++) {
                due(c, x.child(c % 2, 1 + c % 15, c % 21, c % 8));
                due(c + 1, x.count(0));
            }
            due(FULL, x.child(0, 1, 0, 0));
            due(FULL, x.child(1, 15, 20, 7));
            due(48, x.count(0));
        });
        Edge.sentence("child: FULL, and nothing changes", () -> Edge.refused(FULL,
            full().then(Edge.brought()), x -> x.child(0, 1, 0, 0)));
        Edge.sentence("child: BAD ahead of FULL", () -> {
            Edge.refused(BAD, full(), x -> x.child(2, 1, 0, 0));
            Edge.refused(BAD, full(), x -> x.child(0, 16, 0, 0));
            Edge.refused(BAD, full(), x -> x.child(0, 1, 21, 0));
            Edge.refused(BAD, full(), x -> x.child(0, 1, 0, 8));
        });
        Edge.sentence("child: a BAD one takes no number", () -> {
            ChildTrains x = new ChildTrains();
            due(BAD, x.child(0, 0, 0, 0));
            due(0, x.child(0, 1, 0, 0));
            due(BAD, x.child(-1, 1, 0, 0));
            due(1, x.child(0, 1, 0, 0));
        });
        Edge.sentence("a SEX 0, 1; an AGE 1 .. 15: each is kept as told", () -> {
            for (int sex = 0; sex < 2; sex++) {
                for (int age : new int[] {1, 8, 9, 15}) {
                    ChildTrains x = Edge.made(Edge.children(1, sex, age, 0, 0).then(Edge.houses(1, 0, 1, 15, 0)));
                    Edge.orders(x, "m0:+ls" + sex + "a<" + Math.min(15, age + 1) + "a>" + (age - 1) + ";");
                    due(age == 15 ? 0 : 1, x.ruling(0, 0, 0, 0));
                    Edge.orders(x, "m0:-ls" + sex + "!a<" + age + "!a>" + age + ";");
                    due(-1, x.ruling(0, 0, 0, 0));
                }
            }
        });
        Edge.sentence("KIN (0: none; of one number: KIN of each other)", () -> {
            for (int kin = 0; kin <= 20; kin++) {
                ChildTrains x = Edge.made(Edge.brought().then(Edge.children(3, 0, 5, kin, 0)));
                due(kin == 0 ? 0 : 3, x.hall(0, 2));
                x.child(0, 5, kin == 20 ? 1 : kin + 1, 0);
                due(kin == 0 ? 0 : 3, x.hall(0, 2));
                x.child(0, 5, kin, 0);
                due(kin == 0 ? 0 : 6, x.hall(0, 2));
            }
        });
        Edge.sentence("a PARTY 0 .. 7: each has its CHILDREN", () -> {
            ChildTrains x = new ChildTrains();
            for (int p = 0; p < 8; p++) {
                Edge.children(p + 1, 0, 5, 0, p).on(x);
            }
            for (int p = 0; p < 8; p++) {
                due(p + 1, x.load(NONE, p));
            }
        });
        Edge.sentence("SORT: SEX, and 2 for AGE of 9 or more", () -> {
            for (int age = 1; age <= 15; age++) {
                for (int sex = 0; sex < 2; sex++) {
                    ChildTrains x = Edge.made(Edge.brought().then(Edge.children(1, sex, age, 0, 0)));
                    for (int sort = 0; sort < 4; sort++) {
                        x.house(0, 1, 1, 1 << sort, 0);
                    }
                    due(sex + (age < 9 ? 0 : 2), x.chosen(0));
                }
            }
        });
    }

    private static void drafts() {
        Edge.sentence("The lowest n (1 .. 8) bytes of v, the highest of them first", () -> {
            String all = "stuvwxyz";
            for (int n = 1; n <= 8; n++) {
                ChildTrains x = Edge.made(one());
                due(n, x.type(Edge.bytes(all), n));
                due(n, x.name(0));
                due(1, x.torn(Edge.bytes(all.substring(8 - n)), n, 0));
                due(0, x.torn(Edge.bytes("a????????".substring(0, n)), n, 0));
            }
        });
        Edge.sentence("type: bytes of v above the lowest n, and its sign, are nothing", () -> {
            ChildTrains x = Edge.made(one());
            due(1, x.type(Long.MIN_VALUE | 'a', 1));
            due(2, x.type(-256L | 'b', 1));
            due(4, x.type(0xffff_ffff_ffff_0000L | Edge.bytes("cd"), 2));
            due(4, x.name(0));
            due(1, x.torn(Edge.bytes("abcd"), 4, 0));
        });
        Edge.sentence("type: bytes 0 and 255 are bytes, too", () -> {
            ChildTrains x = Edge.made(one());
            due(8, x.type(0, 8));
            due(16, x.type(-1, 8));
            due(STATE, x.name(0));
            due(-10, x.orders());
            due(16, x.clear());
        });
        Edge.sentence("come to THE DRAFT: behind those that it has", () -> {
            ChildTrains x = Edge.made(one());
            x.type('a', 1);
            x.type('b', 1);
            x.type(Edge.bytes("cd"), 2);
            x.name(0);
            due(1, x.torn(Edge.bytes("abcd"), 4, 0));
        });
        Edge.sentence("THE DRAFT (600 at most)", () -> {
            for (int n = 1; n <= 8; n++) {
                ChildTrains x = Edge.made(Edge.typed("a".repeat(600 - n)));
                due(600, x.type(0, n));
                for (int more = 1; more <= 8; more++) {
                    due(FULL, x.type(0, more));
                }
                due(600, x.count(4));
                ChildTrains y = Edge.made(Edge.typed("a".repeat(601 - n)));
                due(FULL, y.type(0, n));
                due(601 - n, y.count(4));
            }
        });
        Edge.sentence("type: FULL, and nothing changes: none of its bytes came", () -> {
            Edge.Build most = Edge.typed("m0:+l;".repeat(30) + "k".repeat(413));
            Edge.refused(FULL, most, x -> x.type(Edge.bytes("abcdefgh"), 8));
            ChildTrains x = Edge.made(most);
            due(FULL, x.type(0, 8));
            due(600, x.type('a', 7));
        });
        Edge.sentence("type: BAD ahead of FULL", () -> {
            for (int n : new int[] {0, 9, -1, Edge.LOW, Edge.HIGH, Edge.HIGH - 599}) {
                Edge.refused(BAD, Edge.typed("a".repeat(600)), x -> x.type(0, n));
            }
        });
        Edge.sentence("clear: THE DRAFT is empty: how many bytes it had", () -> {
            for (int n : new int[] {0, 1, 8, 9, 599, 600}) {
                ChildTrains x = Edge.made(Edge.typed("b".repeat(n)));
                due(n, x.clear());
                due(0, x.count(4));
                due(0, x.clear());
                due(8, x.type(0, 8));
            }
        });
    }

    private static void names() {
        Edge.sentence("a NAME of 1 .. 8 letters", () -> {
            for (int n = 1; n <= 8; n++) {
                ChildTrains x = Edge.made(one().then(Edge.typed("abcdefgh".substring(0, n))));
                due(n, x.name(0));
                due(1, x.torn(Edge.bytes("abcdefgh".substring(0, n)), n, 0));
            }
            for (int n : new int[] {0, 9, 10, 256, 257, 264, 600}) {
                Edge.refused(STATE, one().then(Edge.typed("a".repeat(n))), x -> x.name(0));
            }
        });
        Edge.sentence("letters a .. z: no other byte", () -> {
            for (int sign = 0; sign < 256; sign++) {
                ChildTrains x = Edge.made(one().then(Edge.typed("" + (char) sign)));
                due(sign >= 'a' && sign <= 'z' ? 1 : STATE, x.name(0));
            }
        });
        Edge.sentence("letters a .. z: at each place", () -> {
            for (int place = 0; place < 8; place++) {
                for (char sign : new char[] {'`', 'a', 'z', '{', '?', ' ', 'A'}) {
                    StringBuilder t = new StringBuilder("mmmmmmmm");
                    t.setCharAt(place, sign);
                    ChildTrains x = Edge.made(one().then(Edge.typed(t.toString())));
                    boolean letter = sign == 'a' || sign == 'z';
                    due(letter ? 8 : STATE, x.name(0));
                    due(letter ? 0 : 8, x.count(4));
                }
            }
        });
        Edge.sentence("a NAME (none at first)", () -> {
            ChildTrains x = Edge.made(one());
            for (int n = 1; n <= 8; n++) {
                due(0, x.torn(Edge.bytes("????????"), n, 0));
            }
        });
        Edge.sentence("THE DRAFT becomes a CHILD's NAME, and is empty then", () -> {
            ChildTrains x = Edge.made(Edge.children(3, 0, 5, 0, 0));
            due(2, Edge.name(x, 0, "ab"));
            due(2, Edge.name(x, 2, "ac"));
            due(0, x.count(4));
            due(STATE, x.name(0));
            due(2, x.torn(Edge.bytes("a?"), 2, 0));
            due(8, Edge.name(x, 0, "abcdefgh"));
            due(2, x.torn(Edge.bytes("a?"), 2, 1));
            due(1, Edge.name(x, 0, "h"));
            due(0, x.torn(Edge.bytes("????????"), 8, 0));
            due(0, x.torn('h', 1, 1));
        });
        Edge.sentence("name: STATE: it is none: CHILD and THE DRAFT are as they were", () -> {
            Edge.refused(STATE, x -> {
                Edge.world(x);
                x.type('?', 1);
            }, x -> x.name(0));
            ChildTrains x = Edge.made(one());
            Edge.name(x, 0, "ab");
            due(STATE, Edge.name(x, 0, "abcdefghi"));
            due(1, x.torn(Edge.bytes("ab"), 2, 0));
            due(9, x.clear());
        });
        Edge.sentence("name: BAD ahead of STATE", () -> {
            for (String none : new String[] {"", "abcdefghi", "A"}) {
                for (int child : new int[] {-1, 1, 48, NONE}) {
                    Edge.refused(BAD, one().then(Edge.typed(none)), x -> x.name(child));
                }
            }
        });
        Edge.sentence("name: the last CHILD of 48", () -> {
            ChildTrains x = Edge.made(full());
            due(1, Edge.name(x, 47, "z"));
            due(47, x.torn('z', 1, 1));
            Edge.type(x, "z");
            due(BAD, x.name(48));
        });
    }

    private static void settings() {
        Edge.sentence("a LABEL (0 at first), MINUTE (0 at first): what it was", () -> {
            ChildTrains x = new ChildTrains();
            for (int p = 0; p < 8; p++) {
                due(0, x.party(p, 0, 5));
                due(5, x.party(p, 0, 0));
                due(0, x.party(p, 0, p % 6));
                due(0, x.party(p, 1, 300));
                due(300, x.party(p, 1, 0));
                due(0, x.party(p, 1, p));
            }
            for (int p = 0; p < 8; p++) {
                due(p % 6, x.party(p, 0, 0));
                due(p, x.party(p, 1, 0));
            }
        });
        Edge.sentence("TRAINS: 0, 0 at first, SEATS (0), DOORS (1), a VILLAGE (0): what it was", () -> {
            ChildTrains x = new ChildTrains();
            int[] first = {0, 0, 0, 1, 0};
            int[] most = {300, 300, 48, 4, 5};
            for (int t = 0; t < 6; t++) {
                for (int what = 0; what < 5; what++) {
                    due(first[what], x.train(t, what, most[what]));
                    due(most[what], x.train(t, what, most[what] - (t + what) % 3));
                }
            }
            for (int t = 0; t < 6; t++) {
                for (int what = 0; what < 5; what++) {
                    due(most[what] - (t + what) % 3, x.train(t, what, 1));
                }
            }
        });
        Edge.sentence("WAY 0 (at hand at first): what it was", () -> {
            ChildTrains x = new ChildTrains();
            due(0, x.wayOf(2));
            due(2, x.wayOf(1));
            due(1, x.wayOf(1));
            due(BAD, x.wayOf(3));
            due(1, x.wayOf(0));
            due(0, x.wayOf(0));
        });
        Edge.sentence("DOORS: a BAD number leaves what it was", () -> {
            ChildTrains x = new ChildTrains();
            due(BAD, x.train(0, 3, 0));
            due(BAD, x.train(0, 3, 5));
            due(1, x.train(0, 3, 4));
            due(BAD, x.train(0, 3, 0));
            due(4, x.train(0, 3, 1));
        });
    }

    private static void standing() {
        Edge.sentence("TRAINS stand there from a MINUTE up to, not with, another one", () -> {
            minutes(Edge.made(Edge.children(3, 0, 5, 0, 0).then(Edge.train(0, 10, 12, 48, 0))), 10, 11, NONE);
            minutes(Edge.made(Edge.children(2, 0, 5, 0, 0).then(Edge.train(0, 10, 11, 48, 0))), 10, NONE);
            minutes(Edge.made(Edge.children(2, 0, 5, 0, 0).then(Edge.train(0, 0, 1, 48, 0))), 0, NONE);
        });
        Edge.sentence("a TRAIN that stands from a MINUTE up to the same, or an earlier one", () -> {
            minutes(Edge.made(one().then(Edge.train(0, 10, 10, 48, 0))), NONE);
            minutes(Edge.made(one().then(Edge.train(0, 11, 10, 48, 0))), NONE);
            minutes(Edge.made(one().then(Edge.train(0, 300, 0, 48, 0))), NONE);
            minutes(Edge.made(one().then(Edge.train(0, 300, 300, 48, 0))), NONE);
        });
        Edge.sentence("TRAINS (0, 0 at first): none stands there", () -> {
            ChildTrains x = Edge.made(Edge.children(2, 0, 5, 0, 0));
            for (int t = 0; t < 6; t++) {
                x.train(t, 2, 48);
            }
            minutes(x, NONE, NONE);
            x.train(5, 1, 1);
            minutes(x, 0, NONE);
            trains(x, 5, NONE);
        });
        Edge.sentence("THE BOARDING from MINUTE 0 to 300", () -> {
            minutes(Edge.made(Edge.children(2, 0, 5, 0, 0).then(Edge.train(0, 299, 300, 48, 0))), 299, NONE);
            minutes(Edge.made(Edge.children(2, 0, 5, 0, 0).then(Edge.train(0, 298, 300, 48, 0))), 298, 299);
            ChildTrains x = Edge.made(Edge.children(2, 0, 5, 0, 0).then(Edge.train(0, 0, 300, 48, 0)));
            minutes(x, 0, 1);
            x.party(0, 1, 299);
            minutes(x, 299, NONE);
            x.party(0, 1, 300);
            minutes(x, NONE, NONE);
            due(2, x.mixed(1));
        });
        Edge.sentence("SEATS 0 .. 48: none, one, all but one, all", () -> {
            for (int seats : new int[] {0, 1, 47, 48}) {
                ChildTrains x = Edge.made(full().then(Edge.train(3, 0, 48, seats, 5)));
                due(seats, x.mixed(2));
                due(48 - seats, x.mixed(1));
                due(seats, x.load(3, 2));
                due(seats == 48 ? 47 : NONE, x.boarded(47, 1));
                due(seats == 0 ? NONE : 0, x.boarded(0, 1));
            }
        });
        Edge.sentence("SEATS (0 at first): none boards", () -> {
            ChildTrains x = Edge.made(one());
            x.train(0, 1, 300);
            due(1, x.mixed(1));
            x.train(0, 2, 1);
            due(0, x.mixed(1));
        });
        Edge.sentence("takes as many as it has DOORS", () -> {
            for (int doors = 1; doors <= 4; doors++) {
                ChildTrains x = Edge.made(Edge.children(9, 0, 5, 0, 0).then(Edge.train(0, 7, 300, 48, 0)));
                x.train(0, 3, doors);
                for (int c = 0; c < 9; c++) {
                    due(7 + c / doors, x.boarded(c, 1));
                }
            }
        });
        Edge.sentence("one by one, while SEATS are left", () -> {
            ChildTrains x = Edge.made(Edge.children(6, 0, 5, 0, 0).then(Edge.train(0, 7, 300, 3, 0)));
            x.train(0, 3, 4);
            minutes(x, 7, 7, 7, NONE, NONE, NONE);
            x.train(0, 2, 4);
            minutes(x, 7, 7, 7, 7, NONE, NONE);
            x.train(0, 2, 5);
            minutes(x, 7, 7, 7, 7, 8, NONE);
        });
        Edge.sentence("DOORS are more than those who wait", () -> {
            ChildTrains x = Edge.made(Edge.children(1, 0, 5, 0, 0).then(Edge.children(2, 0, 5, 0, 1))
                .then(Edge.train(0, 0, 300, 48, 0)));
            x.train(0, 3, 4);
            x.party(1, 1, 2);
            minutes(x, 0, 2, 2);
        });
        Edge.sentence("go to a VILLAGE 0 .. 5", () -> {
            for (int v = 0; v < 6; v++) {
                ChildTrains x = Edge.made(one().then(Edge.train(5 - v, 0, 1, 1, v)));
                due(5 - v, x.boarded(0, 0));
                due(v, x.boarded(0, 2));
            }
        });
    }

    private static void queue() {
        Edge.sentence("PARTIES that come then stand behind all others", () -> {
            ChildTrains x = Edge.made(Edge.children(2, 0, 5, 0, 0).then(Edge.children(2, 0, 5, 0, 7))
                .then(Edge.train(0, 5, 300, 48, 0)));
            x.party(0, 1, 5);
            minutes(x, 7, 8, 5, 6);
            x.party(7, 1, 6);
            minutes(x, 5, 6, 7, 8);
        });
        Edge.sentence("PARTIES that come in one MINUTE: in order", () -> {
            ChildTrains x = Edge.made(Edge.children(1, 0, 5, 0, 7).then(Edge.children(1, 0, 5, 0, 3))
                .then(Edge.children(1, 0, 5, 0, 0)).then(Edge.train(0, 4, 300, 48, 0)));
            minutes(x, 6, 5, 4);
            for (int p = 0; p < 8; p++) {
                x.party(p, 1, 9);
            }
            minutes(x, 11, 10, 9);
        });
        Edge.sentence("their CHILDREN by numbers", () -> {
            ChildTrains x = Edge.made(Edge.children(1, 0, 5, 0, 1).then(Edge.children(1, 0, 5, 0, 0))
                .then(Edge.children(1, 1, 1, 0, 1)).then(Edge.children(1, 1, 15, 0, 0)).then(Edge.brought()));
            minutes(x, 2, 0, 3, 1);
        });
        Edge.sentence("in a MINUTE first PARTIES, then each TRAIN", () -> {
            ChildTrains x = Edge.made(Edge.children(2, 0, 5, 0, 0).then(Edge.train(0, 7, 8, 48, 0)));
            x.party(0, 1, 7);
            minutes(x, 7, NONE);
            x.party(0, 1, 8);
            minutes(x, NONE, NONE);
        });
        Edge.sentence("each TRAIN that stands there, in order", () -> {
            ChildTrains x = Edge.made(Edge.children(5, 0, 5, 0, 0).then(Edge.train(5, 0, 300, 48, 0))
                .then(Edge.train(1, 0, 300, 48, 0)));
            trains(x, 1, 5, 1, 5, 1);
            minutes(x, 0, 0, 1, 1, 2);
            x.train(1, 3, 3);
            trains(x, 1, 1, 1, 5, 1);
            x.train(1, 0, 1);
            trains(x, 5, 1, 1, 1, 5);
        });
        Edge.sentence("All by CHILDREN as they are told now", () -> {
            ChildTrains x = Edge.made(Edge.children(1, 0, 5, 0, 1).then(Edge.train(0, 0, 1, 48, 3)));
            due(0, x.boarded(0, 1));
            x.child(0, 5, 0, 0);
            minutes(x, NONE, 0);
            x.party(0, 1, 1);
            minutes(x, 0, NONE);
            x.party(1, 0, 1);
            due(1, x.mixed(0));
            x.wayOf(1);
            minutes(x, NONE, NONE);
            x.wayOf(0);
            x.train(0, 4, 5);
            due(5, x.boarded(0, 2));
            x.train(0, 2, 0);
            minutes(x, NONE, NONE);
        });
    }

    /** What was asked before a change has no say in what is asked behind it. */
    private static void askedBeforeOrNot() {
        Edge.Build[] changes = {x -> x.child(0, 9, 1, 0), x -> x.party(1, 0, 0), x -> x.party(0, 1, 8), x -> x.train(0, 0, 4),
            x -> x.train(0, 1, 2), x -> x.train(2, 2, 0), x -> x.train(3, 3, 4), x -> x.train(0, 4, 4), x -> x.wayOf(1),
            x -> x.house(1, 1, 4, 15, 2), x -> x.clear(), x -> x.delay(1, 0, 20), x -> x.lodge(3, 2, 9), x -> x.fetch(1, 9)};
        java.util.List<Edge.Ask> asks = new java.util.ArrayList<>();
        for (int i = 0; i < 6; i++) {
            int n = i;
            asks.add(x -> x.boarded(n, 0));
            asks.add(x -> x.boarded(n, 1));
            asks.add(x -> x.boarded(n, 2));
            asks.add(x -> x.chosen(n));
            asks.add(x -> x.mixed(n % 3));
            asks.add(x -> x.load(n, 1));
            asks.add(x -> x.load(NONE, n));
            asks.add(x -> x.hall(n, 0));
            asks.add(x -> x.hall(n, 1));
            asks.add(x -> x.hall(n, 2));
            asks.add(x -> x.best(n, 0));
            asks.add(x -> x.best(n, 1));
            asks.add(x -> x.paths(n % 2));
            asks.add(x -> x.where(n, 199));
            asks.add(x -> x.free(n % 3, 199));
            asks.add(x -> x.ruling(0, n, 0, 20));
            asks.add(x -> x.city(40 * n - 1));
        }
        for (Edge.Build change : changes) {
            for (Edge.Ask ask : asks) {
                ChildTrains x = Edge.made(Edge::world);
                for (Edge.Ask before : asks) {
                    before.of(x);
                }
                change.on(x);
                ChildTrains y = Edge.made(Edge::world);
                change.on(y);
                y.mixed(0);
                due(ask.of(y), ask.of(x));
            }
        }
    }

    private static void ways() {
        Edge.sentence("WAY 0: the first who waits", () -> {
            ChildTrains x = Edge.made(Edge.children(2, 0, 5, 0, 0).then(Edge.train(4, 0, 1, 48, 0)));
            trains(x, 4, NONE);
            due(1, x.mixed(0));
        });
        Edge.sentence("1: the first who waits whose LABEL it is", () -> {
            for (int label = 0; label < 6; label++) {
                ChildTrains x = Edge.made(Edge.children(2, 0, 5, 0, 0).then(Edge.children(2, 0, 5, 0, 1))
                    .then(Edge.train(label, 0, 300, 48, 0)));
                x.party(0, 0, (label + 1) % 6);
                x.party(1, 0, label);
                x.wayOf(1);
                trains(x, NONE, NONE, label, label);
                minutes(x, NONE, NONE, 0, 1);
                due(0, x.mixed(0));
            }
        });
        Edge.sentence("1: the first who waits, if it is the first of all; none, if none waits with the LABEL", () -> {
            ChildTrains x = Edge.made(Edge.children(2, 0, 5, 0, 0).then(Edge.children(1, 0, 5, 0, 1))
                .then(Edge.train(0, 0, 300, 48, 0)).then(Edge.train(2, 0, 300, 48, 0)));
            x.party(1, 0, 3);
            x.wayOf(1);
            trains(x, 0, 0, NONE);
            minutes(x, 0, 1, NONE);
        });
        Edge.sentence("1: from the midst of a platform of 48", () -> {
            ChildTrains x = Edge.made(Edge.children(24, 0, 5, 0, 0).then(Edge.children(24, 0, 5, 0, 1))
                .then(Edge.train(1, 0, 300, 48, 0)));
            x.party(1, 0, 1);
            x.wayOf(1);
            Edge.dueRow(new long[] {NONE, NONE, 0, 23}, x.boarded(0, 1), x.boarded(23, 1), x.boarded(24, 1), x.boarded(47, 1));
            due(24, x.mixed(1));
        });
        Edge.sentence("1: none of 48 who wait has the LABEL", () -> {
            ChildTrains x = Edge.made(full().then(Edge.train(5, 0, 300, 48, 0)));
            x.wayOf(1);
            due(48, x.mixed(1));
            x.wayOf(2);
            due(43, x.mixed(1));
        });
        Edge.sentence("2: as 1, but in the last 5 MINUTES that it stands as 0", () -> {
            int[][] rows = {{0, 300, 295}, {0, 10, 5}, {0, 6, 1}, {0, 5, 0}, {0, 4, 0}, {3, 5, 3}, {3, 8, 3}, {3, 9, 4}, {299, 300, 299}};
            for (int[] r : rows) {
                ChildTrains x = Edge.made(one().then(Edge.train(4, r[0], r[1], 48, 0)));
                x.wayOf(2);
                Edge.due(r[2], x.boarded(0, 1), "from " + r[0] + " up to " + r[1]);
            }
        });
        Edge.sentence("in the last 5 MINUTES .. as 0: ahead of those whose LABEL it is", () -> {
            ChildTrains x = Edge.made(Edge.children(1, 0, 5, 0, 0).then(Edge.children(7, 0, 5, 0, 1))
                .then(Edge.train(4, 0, 10, 48, 0)));
            x.party(1, 0, 4);
            x.wayOf(2);
            minutes(x, 5, 0, 1, 2, 3, 4, 6, 7);
            x.wayOf(1);
            minutes(x, NONE, 0, 1, 2, 3, 4, 5, 6);
            x.wayOf(0);
            minutes(x, 0, 1, 2, 3, 4, 5, 6, 7);
        });
        Edge.sentence("the last 5 MINUTES that IT stands: not those of another TRAIN", () -> {
            ChildTrains x = Edge.made(one().then(Edge.train(1, 0, 20, 48, 0)).then(Edge.train(2, 0, 12, 48, 0)));
            x.wayOf(2);
            trains(x, 2);
            minutes(x, 7);
        });
    }

    private static void outcomes() {
        Edge.sentence("boarded: its TRAIN (NONE), the MINUTE (NONE), VILLAGE (NONE)", () -> {
            ChildTrains x = Edge.made(Edge.children(2, 0, 5, 0, 0).then(Edge.train(0, 0, 1, 48, 0)));
            for (int what = 0; what < 3; what++) {
                due(0, x.boarded(0, what));
                due(NONE, x.boarded(1, what));
            }
            due(BAD, x.boarded(2, 0));
        });
        Edge.sentence("MIXED: those in a TRAIN that is not their LABEL; LEFT: those in none", () -> {
            ChildTrains x = Edge.made(Edge.children(2, 0, 5, 0, 0).then(Edge.children(3, 0, 5, 0, 7))
                .then(Edge.train(5, 0, 4, 48, 0)));
            Edge.dueRow(new long[] {4, 1, 4}, x.mixed(0), x.mixed(1), x.mixed(2));
            x.party(7, 0, 5);
            Edge.dueRow(new long[] {2, 1, 4}, x.mixed(0), x.mixed(1), x.mixed(2));
            x.party(0, 0, 5);
            Edge.dueRow(new long[] {0, 1, 4}, x.mixed(0), x.mixed(1), x.mixed(2));
            x.train(5, 2, 0);
            Edge.dueRow(new long[] {0, 5, 0}, x.mixed(0), x.mixed(1), x.mixed(2));
        });
        Edge.sentence("mixed: all 48 in a TRAIN, all MIXED", () -> {
            ChildTrains x = Edge.made(full().then(Edge.train(1, 0, 12, 48, 0)));
            x.train(1, 3, 4);
            Edge.dueRow(new long[] {48, 0, 48}, x.mixed(0), x.mixed(1), x.mixed(2));
            due(11, x.boarded(47, 1));
        });
        Edge.sentence("load: How many of a PARTY are in a TRAIN (NONE: in none)", () -> {
            ChildTrains x = Edge.made(Edge.children(3, 0, 5, 0, 0).then(Edge.children(2, 0, 5, 0, 7))
                .then(Edge.train(0, 0, 1, 48, 0)).then(Edge.train(5, 0, 3, 48, 0)));
            Edge.dueRow(new long[] {1, 0, 2, 1, 0, 1}, x.load(0, 0), x.load(0, 7), x.load(5, 0), x.load(5, 7),
                x.load(NONE, 0), x.load(NONE, 7));
            Edge.dueRow(new long[3], x.load(1, 0), x.load(5, 6), x.load(NONE, 6));
        });
    }

    public static void main(String[] args) {
        nothingYet();
        children();
        drafts();
        names();
        settings();
        standing();
        queue();
        Edge.sentence("as they are told now: asked before or not", EdgeTrainsTest::askedBeforeOrNot);
        ways();
        outcomes();
        Edge.end();
    }
}
