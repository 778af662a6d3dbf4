import java.util.ArrayList;
import java.util.Arrays;
import java.util.HashMap;
import java.util.List;
import java.util.Map;
import java.util.Random;
import java.util.regex.Matcher;
import java.util.regex.Pattern;

/** Random runs of calls, each answer held against a slow and literal model of the document. */
public final class FuzzTest {
    private static final int BAD = -1, STATE = -2, FULL = -3, NONE = -9;
    private static int wrong = 0;
    private static long calls = 0;
    private static final Map<String, Integer> plain = new HashMap<>();

    /** A literal reading of the document, with no thought of speed. */
    static final class Model {
        record Child(int sex, int age, int kin, int party) {
            int sort() { return sex + (age >= 9 ? 2 : 0); }
        }
        record House(int village, int kind, int beds, int takes, int habit) { }
        record Event(int child, int house, int day, String how, int left) { }
        record Order(char of, int day, char verdict, char deed, List<String> conds) { }

        final List<Child> children = new ArrayList<>();
        final Map<Integer, String> names = new HashMap<>();
        final List<House> houses = new ArrayList<>();
        final List<Event> events = new ArrayList<>();
        List<Order> orders = new ArrayList<>();
        String draft = "";
        final int[][] party = new int[8][2];
        final int[][] train = new int[6][5];
        final int[][] delay = new int[6][3];
        int way = 0;
        long trace = 0;

        Model() { for (int[] t : train) t[3] = 1; }

        static boolean in(int v, int a, int b) { return a <= v && v <= b; }
        boolean isChild(int c) { return in(c, 0, children.size() - 1); }
        boolean isHouse(int h) { return in(h, 0, houses.size() - 1); }
        boolean kin(int a, int b) {
            return a != b && children.get(a).kin() != 0 && children.get(a).kin() == children.get(b).kin();
        }

        int child(int s, int a, int k, int p) {
            if (!in(s, 0, 1) || !in(a, 1, 15) || !in(k, 0, 20) || !in(p, 0, 7)) return BAD;
            if (children.size() == 48) return FULL;
            children.add(new Child(s, a, k, p));
            return children.size() - 1;
        }

        static String text(long v, int n) {
            String t = "";
            for (int i = 0; i < n; i++) { t = (char) (v & 255) + t; v >>= 8; }
            return t;
        }

        int type(long v, int n) {
            if (!in(n, 1, 8)) return BAD;
            if (draft.length() + n > 600) return FULL;
            draft += text(v, n);
            return draft.length();
        }

        int clear() { int n = draft.length(); draft = ""; return n; }

        int name(int c) {
            if (!isChild(c)) return BAD;
            if (!draft.matches("[a-z]{1,8}")) return STATE;
            names.put(c, draft);
            return clear();
        }

        int party(int p, int w, int v) {
            if (!in(p, 0, 7) || !in(w, 0, 1) || !in(v, 0, w == 0 ? 5 : 300)) return BAD;
            int was = party[p][w]; party[p][w] = v; return was;
        }

        int train(int t, int w, int v) {
            if (!in(t, 0, 5) || !in(w, 0, 4)) return BAD;
            int[] least = {0, 0, 0, 1, 0}, most = {300, 300, 48, 4, 5};
            if (!in(v, least[w], most[w])) return BAD;
            int was = train[t][w]; train[t][w] = v; return was;
        }

        int wayOf(int v) { if (!in(v, 0, 2)) return BAD; int w = way; way = v; return w; }

        int[][] boarding() {
            int[][] got = new int[48][];
            List<Integer> queue = new ArrayList<>();
            int[] taken = new int[6];
            for (int m = 0; m <= 300; m++) {
                for (int p = 0; p < 8; p++) if (party[p][1] == m)
                    for (int c = 0; c < children.size(); c++) if (children.get(c).party() == p) queue.add(c);
                for (int t = 0; t < 6; t++) {
                    int[] tr = train[t];
                    if (m < tr[0] || m >= tr[1]) continue;
                    for (int d = 0; d < tr[3]; d++) {
                        if (taken[t] >= tr[2]) break;
                        boolean last = tr[1] - m <= 5;
                        Integer pick = null;
                        for (Integer c : queue) {
                            boolean its = party[children.get(c).party()][0] == t;
                            if (way == 0 || its || way == 2 && last) { pick = c; break; }
                        }
                        if (pick == null) break;
                        queue.remove(pick);
                        taken[t]++;
                        got[pick] = new int[] {t, m, tr[4]};
                    }
                }
            }
            return got;
        }

        int boarded(int c, int w) {
            if (!isChild(c) || !in(w, 0, 2)) return BAD;
            int[] g = boarding()[c];
            return g == null ? NONE : g[w];
        }

        int mixed(int w) {
            if (!in(w, 0, 2)) return BAD;
            int[][] g = boarding();
            int[] r = new int[3];
            for (int c = 0; c < children.size(); c++) {
                if (g[c] == null) r[1]++;
                else { r[2]++; if (g[c][0] != party[children.get(c).party()][0]) r[0]++; }
            }
            return r[w];
        }

        int load(int t, int p) {
            if (t != NONE && !in(t, 0, 5) || !in(p, 0, 7)) return BAD;
            int[][] g = boarding();
            int r = 0;
            for (int c = 0; c < children.size(); c++)
                if (children.get(c).party() == p && (g[c] == null ? NONE : g[c][0]) == t) r++;
            return r;
        }

        int house(int v, int k, int b, int t, int h) {
            if (!in(v, 0, 5) || !in(k, 1, 3) || !in(b, 1, 4) || !in(t, 0, 15) || !in(h, 0, 3)) return BAD;
            if (houses.size() == 24) return FULL;
            houses.add(new House(v, k, b, t, h));
            return houses.size() - 1;
        }

        int payOf(int kind, int n, int k, boolean traced) {
            if (traced) trace += new int[] {1, 10, 100, 1000}[kind];
            if (kind == 0) return 60 * n;
            int up = payOf(kind - 1, n, k, traced);
            if (kind == 1) {
                for (int i = 0; i < n; i++) up += i == 0 ? 24 : 12;
                return up;
            }
            if (kind == 2) return up + (int) Math.ceil(up / 10.0);
            return up + 30 * k;
        }

        int pay(int kind, int n, int k) {
            if (!in(kind, 0, 3) || !in(n, 0, 9) || !in(k, 0, n)) return BAD;
            return payOf(kind, n, k, true);
        }

        List<Integer> hallOf(int v) {
            int[][] g = boarding();
            List<Integer> r = new ArrayList<>();
            for (int c = 0; c < children.size(); c++) if (g[c] != null && g[c][2] == v) r.add(c);
            return r;
        }

        boolean takes(int h, int c) {
            int sort = children.get(c).sort();
            return (houses.get(h).takes() & (1 << sort)) != 0;
        }

        Map<Integer, Integer> choosing(int v) {
            Map<Integer, Integer> at = new HashMap<>();
            List<Integer> left = hallOf(v);
            for (int h = 0; h < houses.size(); h++) {
                if (houses.get(h).village() != v) continue;
                for (int b = 0; b < houses.get(h).beds(); b++) {
                    List<Integer> can = new ArrayList<>();
                    for (int c : left) if (takes(h, c)) can.add(c);
                    if (can.isEmpty()) continue;
                    final int house = h;
                    Integer pick = can.get(0);
                    switch (houses.get(h).habit()) {
                        case 0 -> { for (int c : can) if (children.get(c).age() > children.get(pick).age()) pick = c; }
                        case 1 -> { for (int c : can) if (children.get(c).age() < children.get(pick).age()) pick = c; }
                        case 3 -> pick = can.stream().filter(c -> at.entrySet().stream().anyMatch(
                                e -> e.getValue() == house && kin(e.getKey(), c))).findFirst().orElse(pick);
                        default -> { }
                    }
                    left.remove(pick);
                    at.put(pick, h);
                }
            }
            return at;
        }

        int parted(List<Integer> hall, Map<Integer, Integer> at) {
            int r = 0;
            for (int a : hall) for (int b : hall)
                if (a < b && kin(a, b) && !(at.containsKey(a) && at.get(a).equals(at.get(b)))) r++;
            return r;
        }

        int hall(int v, int w) {
            if (!in(v, 0, 5) || !in(w, 0, 2)) return BAD;
            List<Integer> all = hallOf(v);
            Map<Integer, Integer> at = choosing(v);
            return w == 0 ? all.size() : w == 1 ? all.size() - at.size() : parted(all, at);
        }

        int chosen(int c) {
            if (!isChild(c)) return BAD;
            int v = boarded(c, 2);
            return v == NONE ? NONE : choosing(v).getOrDefault(c, NONE);
        }

        /** Over * 1000 + parted of those from i on, by trying every house and none for each. */
        int rest(List<Integer> hall, List<Integer> places, int i, int[] at, int[] beds, Map<String, Integer> seen) {
            if (i == hall.size()) return 0;
            StringBuilder key = new StringBuilder().append(i).append(Arrays.toString(beds));
            for (int j = 0; j < i; j++) {
                boolean matters = false;
                for (int l = i; l < hall.size(); l++) matters |= kin(hall.get(j), hall.get(l));
                if (matters) key.append(' ').append(j).append(':').append(at[j]);
            }
            Integer known = seen.get(key.toString());
            if (known != null) return known;
            int best = Integer.MAX_VALUE;
            for (int p = -1; p < places.size(); p++) {
                if (p >= 0 && (beds[p] == 0 || !takes(places.get(p), hall.get(i)))) continue;
                int cost = p < 0 ? 1000 : 0;
                for (int j = 0; j < i; j++) if (kin(hall.get(i), hall.get(j)) && (p < 0 || at[j] != p)) cost++;
                at[i] = p;
                if (p >= 0) beds[p]--;
                best = Math.min(best, cost + rest(hall, places, i + 1, at, beds, seen));
                if (p >= 0) beds[p]++;
            }
            seen.put(key.toString(), best);
            return best;
        }

        int best(int v, int w) {
            if (!in(v, 0, 5) || !in(w, 0, 1)) return BAD;
            List<Integer> hall = hallOf(v), places = new ArrayList<>();
            for (int h = 0; h < houses.size(); h++) if (houses.get(h).village() == v) places.add(h);
            if (hall.size() > 12 || places.size() > 6) return STATE;
            int[] beds = places.stream().mapToInt(h -> houses.get(h).beds()).toArray();
            int cost = rest(hall, places, 0, new int[12], beds, new HashMap<>());
            return w == 0 ? cost / 1000 : cost % 1000;
        }

        static final String COND = "!?(?:s[01]|a[<>](?:1[0-5]|[0-9])|k|h[0-3]|w[0-5])";
        static final String ORDER = "[mcp](?:0|[1-9][0-9]?):[-+=][lvf](?:" + COND + "){0,6};";
        static final Pattern ORDERS = Pattern.compile("(?:" + ORDER + "){0,30}");

        int orders() {
            if (ORDERS.matcher(draft).matches()) {
                orders = new ArrayList<>();
                Matcher one = Pattern.compile("([mcp])(\\d+):(.)(.)([^;]*);").matcher(draft);
                while (one.find()) {
                    List<String> conds = new ArrayList<>();
                    Matcher c = Pattern.compile(COND).matcher(one.group(5));
                    while (c.find()) conds.add(c.group());
                    orders.add(new Order(one.group(1).charAt(0), Integer.parseInt(one.group(2)),
                            one.group(3).charAt(0), one.group(4).charAt(0), conds));
                }
                draft = "";
                return orders.size();
            }
            int fault = 0;
            for (int n = 0; n <= draft.length(); n++) {
                Matcher start = ORDERS.matcher(draft.substring(0, n));
                if (start.matches() || start.hitEnd()) fault = n; else break;
            }
            return -10 - fault;
        }

        int delay(int v, int of, int d) {
            if (!in(v, 0, 5) || !in(of, 0, 2) || !in(d, 0, 20)) return BAD;
            int was = delay[v][of]; delay[v][of] = d; return was;
        }

        boolean holds(String cond, Child c, House h) {
            if (cond.charAt(0) == '!') return !holds(cond.substring(1), c, h);
            return switch (cond.charAt(0)) {
                case 's' -> c.sex() == cond.charAt(1) - '0';
                case 'a' -> {
                    int n = Integer.parseInt(cond.substring(2));
                    yield cond.charAt(1) == '<' ? c.age() < n : c.age() > n;
                }
                case 'k' -> c.kin() > 0;
                case 'h' -> h.kind() == cond.charAt(1) - '0';
                default -> h.village() == cond.charAt(1) - '0';
            };
        }

        int ruler(int what, int c, int h, int day) {
            House house = houses.get(h);
            int best = NONE;
            long bestKey = Long.MIN_VALUE;
            for (int o = 0; o < orders.size(); o++) {
                Order x = orders.get(o);
                int of = "mcp".indexOf(x.of());
                if (x.deed() != "lvf".charAt(what) || x.day() + delay[house.village()][of] > day) continue;
                if (!x.conds().stream().allMatch(s -> holds(s, children.get(c), house))) continue;
                long key = (2 - of) * 1_000_000L + x.day() * 1000L + o;
                if (key > bestKey) { bestKey = key; best = o; }
            }
            return best;
        }

        int rule(int what, int c, int h, int day) {
            int o = ruler(what, c, h, day);
            return o == NONE ? 0 : switch (orders.get(o).verdict()) { case '+' -> 1; case '-' -> -1; default -> 0; };
        }

        boolean canRule(int w, int c, int h, int d) { return in(w, 0, 2) && isChild(c) && isHouse(h) && in(d, 0, 199); }
        int ruling(int w, int c, int h, int d) { return canRule(w, c, h, d) ? rule(w, c, h, d) : -5; }
        int why(int w, int c, int h, int d) { return canRule(w, c, h, d) ? ruler(w, c, h, d) : BAD; }

        int at(int c, int day) {
            int at = NONE;
            for (Event e : events) if (e.child() == c && e.day() <= day) at = e.house();
            return at;
        }

        int inside(int h, int day) {
            int r = 0;
            for (int c = 0; c < children.size(); c++) if (at(c, day) == h) r++;
            return r;
        }

        int last() { return events.isEmpty() ? 0 : events.get(events.size() - 1).day(); }

        int lodge(int c, int h, int d) {
            if (!isChild(c) || !isHouse(h) || !in(d, 0, 199) || at(c, 999) == h) return BAD;
            if (d < last() || inside(h, 999) >= houses.get(h).beds() || !takes(h, c)) return STATE;
            boolean home = at(c, 999) == NONE;
            if (rule(home ? 0 : 1, c, h, d) < 0) return STATE;
            if (events.size() == 80) return FULL;
            events.add(new Event(c, h, d, home ? "lodged" : "moved", at(c, 999)));
            return events.size();
        }

        int fetch(int c, int d) {
            if (!isChild(c) || !in(d, 0, 199)) return BAD;
            int h = at(c, 999);
            if (d < last() || h == NONE || rule(2, c, h, d) < 0) return STATE;
            if (events.size() == 80) return FULL;
            events.add(new Event(c, NONE, d, "fetched", h));
            return events.size();
        }

        int where(int c, int d) { return isChild(c) && in(d, 0, 199) ? at(c, d) : BAD; }

        int paid(int h, int w) {
            if (!isHouse(h) || !in(w, 0, 27)) return BAD;
            int n = 0, k = 0;
            for (int c = 0; c < children.size(); c++)
                if (at(c, 7 * w) == h) { n++; if (children.get(c).age() < 5) k++; }
            return payOf(houses.get(h).kind(), n, k, false);
        }

        int free(int h, int d) { return isHouse(h) && in(d, 0, 199) ? houses.get(h).beds() - inside(h, d) : BAD; }

        int trouble(int h) {
            if (!isHouse(h)) return BAD;
            for (int first = 0; first < 200; first++) {
                int n = 0;
                for (Event e : events) if (e.left() == h && in(e.day(), first, first + 27)) n++;
                if (n >= 4) return 1;
            }
            return 0;
        }

        int restless() {
            int r = 0;
            for (int c = 0; c < children.size(); c++) {
                final int child = c;
                if (events.stream().filter(e -> e.child() == child && e.how().equals("moved")).count() >= 3) r++;
            }
            return r;
        }

        int city(int d) { return in(d, 0, 199) ? inside(NONE, d) : BAD; }

        int torn(long v, int n, int w) {
            if (!in(n, 1, 8) || !in(w, 0, 2)) return BAD;
            String t = text(v, n);
            if (!t.matches("[a-z?]+")) return BAD;
            List<Integer> fit = new ArrayList<>();
            for (int c = 0; c < children.size(); c++)
                if (names.getOrDefault(c, "").matches(t.replace('?', '.'))) fit.add(c);
            if (w == 0) return fit.size();
            if (w == 1) return fit.isEmpty() ? NONE : fit.get(0);
            if (fit.size() < 2) return NONE;
            int best = NONE, least = 99;
            for (int q = 0; q < 4; q++) {
                Map<Integer, Integer> by = new HashMap<>();
                for (int c : fit) {
                    Child x = children.get(c);
                    int a = q == 0 ? x.sex() : q == 1 ? (x.age() >= 9 ? 1 : 0) : q == 2 ? (x.kin() > 0 ? 1 : 0) : x.party();
                    by.merge(a, 1, Integer::sum);
                }
                int most = by.values().stream().max(Integer::compare).get();
                if (most < least) { least = most; best = q; }
            }
            return best;
        }

        /** Children * 10 - trains, by trying every train and none for each party from p on. */
        int way(int p, int[] sizes, int[] loads) {
            if (p == 8) {
                int sum = 0;
                for (int x : loads) sum += 10 * x - (x > 0 ? 1 : 0);
                return sum;
            }
            int best = way(p + 1, sizes, loads);
            for (int t = 0; t < 6 && sizes[p] > 0; t++) {
                int v = train[t][4], beds = 0;
                boolean other = false;
                for (House h : houses) if (h.village() == v) beds += h.beds();
                for (int u = 0; u < 6; u++) other |= u != t && loads[u] > 0 && train[u][4] == v;
                if (other || loads[t] + sizes[p] > Math.min(beds, train[t][2])) continue;
                loads[t] += sizes[p];
                best = Math.max(best, way(p + 1, sizes, loads));
                loads[t] -= sizes[p];
            }
            return best;
        }

        int paths(int w) {
            if (!in(w, 0, 1)) return BAD;
            int[] sizes = new int[8];
            for (Child c : children) sizes[c.party()]++;
            int r = way(0, sizes, new int[6]);
            int all = (r + 9) / 10;
            return w == 0 ? all : 10 * all - r;
        }

        int lessons(int c, int r, int t, int h, int d, int i) {
            if (!in(c, 1, 9) || !in(r, 1, 9) || !in(t, 1, 9) || !in(h, 1, 10) || !in(d, 1, 30) || !in(i, 0, c - 1)) return BAD;
            int[] had = new int[c];
            for (int hour = 0; hour < h * d; hour++) {
                boolean[] now = new boolean[c];
                for (int n = 0; n < Math.min(c, Math.min(r, t)); n++) {
                    int pick = -1;
                    for (int x = 0; x < c; x++) if (!now[x] && (pick < 0 || had[x] < had[pick])) pick = x;
                    now[pick] = true;
                }
                for (int x = 0; x < c; x++) if (now[x]) had[x]++;
            }
            return had[i];
        }

        int count(int w) {
            int[] r = {children.size(), houses.size(), orders.size(), events.size(), draft.length()};
            return in(w, 0, 4) ? r[w] : BAD;
        }
    }

    private static final String[] CALLS = {"child", "type", "clear", "name", "party", "train", "wayOf", "boarded",
        "mixed", "load", "house", "pay", "hall", "chosen", "best", "orders", "delay", "ruling", "why", "lodge",
        "fetch", "where", "paid", "free", "trouble", "restless", "city", "torn", "paths", "lessons", "count", "trace"};

    private final Random random;
    private final ChildTrains x = new ChildTrains();
    private final Model m = new Model();
    private final long seed;
    private int asked = 0;
    private final int villages, minutes, parties, kins, odd, hasty;

    private FuzzTest(long seed) {
        this.seed = seed;
        random = new Random(seed);
        villages = 1 + random.nextInt(6);
        minutes = 1 + random.nextInt(random.nextBoolean() ? 20 : 301);
        parties = 1 + random.nextInt(random.nextInt(4) == 0 ? 8 : 5);
        kins = 1 + random.nextInt(21);
        odd = 10 + random.nextInt(60);
        hasty = 1 + random.nextInt(6);
    }

    private int pick(int least, int most) {
        if (random.nextInt(odd) == 0) {
            int[] edges = {least, most, least - 1, most + 1, Integer.MIN_VALUE, Integer.MAX_VALUE, NONE, -1};
            return edges[random.nextInt(edges.length)];
        }
        return least + random.nextInt(Math.max(1, most - least + 1));
    }

    private int aChild() { return pick(0, m.children.size() - 1); }
    private int aHouse() { return pick(0, m.houses.size() - 1); }
    private int aDay() { return random.nextBoolean() ? pick(m.last(), Math.min(199, m.last() + hasty)) : pick(0, 199); }

    private void due(String call, long got, long want) {
        calls++;
        asked++;
        if (want >= 0) plain.merge(call.substring(0, call.indexOf('(')), 1, Integer::sum);
        if (got != want) {
            wrong++;
            if (wrong < 20) System.out.println("seed " + seed + ": " + call + " answered " + got + ", due is " + want);
        }
    }

    private void type(String text) {
        for (int i = 0; i < text.length(); i += 8) {
            String part = text.substring(i, Math.min(text.length(), i + 8));
            long v = random.nextLong();
            for (char c : part.toCharArray()) v = v << 8 | c;
            due("type(" + part + ")", x.type(v, part.length()), m.type(v, part.length()));
        }
    }

    private String letters() {
        StringBuilder t = new StringBuilder();
        for (int n = 1 + random.nextInt(3); n > 0; n--) t.append("ab".charAt(random.nextInt(2)));
        if (random.nextInt(30) == 0) t.append("cdefghijkl", 0, random.nextInt(11));
        return t.toString();
    }

    private String anOrder() {
        StringBuilder t = new StringBuilder();
        t.append("mcp".charAt(random.nextInt(3))).append(random.nextInt(random.nextBoolean() ? 100 : 10)).append(':');
        t.append("+=--".charAt(random.nextInt(4))).append("lvf".charAt(random.nextInt(3)));
        for (int n = random.nextInt(4) + (random.nextInt(20) == 0 ? 4 : 0); n > 0; n--) {
            if (random.nextInt(3) == 0) t.append('!');
            switch (random.nextInt(5)) {
                case 0 -> t.append('s').append(random.nextInt(2));
                case 1 -> t.append('a').append("<>".charAt(random.nextInt(2))).append(random.nextInt(16));
                case 2 -> t.append('k');
                case 3 -> t.append('h').append(random.nextInt(4));
                default -> t.append('w').append(random.nextInt(6));
            }
        }
        return t.append(';').toString();
    }

    private String someOrders() {
        StringBuilder t = new StringBuilder();
        int most = random.nextInt(12) == 0 ? 32 : 6;
        for (int n = random.nextInt(most + 1); n > 0; n--) t.append(anOrder());
        if (random.nextInt(3) == 0 && t.length() > 0) {
            int place = random.nextInt(t.length());
            String signs = "mcp0123456789:+=-lvfsakhw<>!; x\u00e9\u0000";
            switch (random.nextInt(4)) {
                case 0 -> t.deleteCharAt(place);
                case 1 -> t.insert(place, signs.charAt(random.nextInt(signs.length())));
                case 2 -> t.setLength(place);
                default -> t.setCharAt(place, signs.charAt(random.nextInt(signs.length())));
            }
        }
        return t.length() > 590 ? t.substring(0, 590) : t.toString();
    }

    private void tell(int which) {
        int a, b, c, d, e, f;
        long v;
        switch (CALLS[which]) {
            case "child" -> { a = pick(0, 1); b = pick(1, 15); c = pick(0, kins - 1); d = pick(0, parties - 1);
                due("child(" + a + "," + b + "," + c + "," + d + ")", x.child(a, b, c, d), m.child(a, b, c, d)); }
            case "type" -> { v = random.nextLong(); a = pick(1, 8);
                due("type(" + v + "," + a + ")", x.type(v, a), m.type(v, a));
                if (random.nextInt(3) > 0) due("clear()", x.clear(), m.clear()); }
            case "clear" -> due("clear()", x.clear(), m.clear());
            case "name" -> { if (random.nextInt(8) > 0) { due("clear()", x.clear(), m.clear()); type(letters()); }
                a = aChild(); due("name(" + a + ")", x.name(a), m.name(a)); }
            case "party" -> { a = pick(0, 7); b = pick(0, 1); c = b == 0 ? pick(0, 5) : pick(0, minutes - 1);
                due("party(" + a + "," + b + "," + c + ")", x.party(a, b, c), m.party(a, b, c)); }
            case "train" -> { a = pick(0, 5); b = pick(0, 4);
                c = switch (b) { case 0 -> pick(0, minutes / 2); case 1 -> pick(minutes / 2, minutes - 1);
                    case 2 -> random.nextInt(9) == 0 ? pick(0, 48) : pick(0, 12); case 3 -> pick(1, 4); default -> pick(0, villages - 1); };
                due("train(" + a + "," + b + "," + c + ")", x.train(a, b, c), m.train(a, b, c)); }
            case "wayOf" -> { a = pick(0, 2); due("wayOf(" + a + ")", x.wayOf(a), m.wayOf(a)); }
            case "boarded" -> { a = aChild(); b = pick(0, 2);
                due("boarded(" + a + "," + b + ")", x.boarded(a, b), m.boarded(a, b)); }
            case "mixed" -> { a = pick(0, 2); due("mixed(" + a + ")", x.mixed(a), m.mixed(a)); }
            case "load" -> { a = random.nextInt(5) == 0 ? NONE : pick(0, 5); b = pick(0, parties - 1);
                due("load(" + a + "," + b + ")", x.load(a, b), m.load(a, b)); }
            case "house" -> { a = pick(0, villages - 1); b = pick(1, 3); c = pick(1, 4); d = random.nextBoolean() ? 15 : pick(0, 15); e = pick(0, 3);
                due("house(" + a + "," + b + "," + c + "," + d + "," + e + ")", x.house(a, b, c, d, e), m.house(a, b, c, d, e)); }
            case "pay" -> { a = pick(0, 3); b = pick(0, 9); c = pick(0, Math.max(0, Math.min(b, 9)));
                due("pay(" + a + "," + b + "," + c + ")", x.pay(a, b, c), m.pay(a, b, c)); }
            case "hall" -> { a = pick(0, villages - 1); b = pick(0, 2);
                due("hall(" + a + "," + b + ")", x.hall(a, b), m.hall(a, b)); }
            case "chosen" -> { a = aChild(); due("chosen(" + a + ")", x.chosen(a), m.chosen(a)); }
            case "best" -> { a = pick(0, villages - 1); b = pick(0, 1);
                if (random.nextInt(4) == 0) due("best(" + a + "," + b + ")", x.best(a, b), m.best(a, b)); }
            case "orders" -> { if (random.nextInt(3) > 0) break;
                due("clear()", x.clear(), m.clear()); String t = someOrders(); type(t);
                due("orders() of " + t, x.orders(), m.orders()); }
            case "delay" -> { a = pick(0, 5); b = pick(0, 2); c = pick(0, 20);
                due("delay(" + a + "," + b + "," + c + ")", x.delay(a, b, c), m.delay(a, b, c)); }
            case "ruling" -> { a = pick(0, 2); b = aChild(); c = aHouse(); d = aDay();
                due("ruling(" + a + "," + b + "," + c + "," + d + ")", x.ruling(a, b, c, d), m.ruling(a, b, c, d)); }
            case "why" -> { a = pick(0, 2); b = aChild(); c = aHouse(); d = aDay();
                due("why(" + a + "," + b + "," + c + "," + d + ")", x.why(a, b, c, d), m.why(a, b, c, d)); }
            case "lodge" -> { for (int n = 0; n < 2; n++) { a = random.nextInt(2) == 0 ? 0 : aChild(); b = aHouse(); c = aDay();
                due("lodge(" + a + "," + b + "," + c + ")", x.lodge(a, b, c), m.lodge(a, b, c)); } }
            case "fetch" -> { a = aChild(); b = aDay(); due("fetch(" + a + "," + b + ")", x.fetch(a, b), m.fetch(a, b)); }
            case "where" -> { a = aChild(); b = aDay(); due("where(" + a + "," + b + ")", x.where(a, b), m.where(a, b)); }
            case "paid" -> { a = aHouse(); b = pick(0, 27); due("paid(" + a + "," + b + ")", x.paid(a, b), m.paid(a, b)); }
            case "free" -> { a = aHouse(); b = aDay(); due("free(" + a + "," + b + ")", x.free(a, b), m.free(a, b)); }
            case "trouble" -> { a = aHouse(); due("trouble(" + a + ")", x.trouble(a), m.trouble(a)); }
            case "restless" -> due("restless()", x.restless(), m.restless());
            case "city" -> { a = aDay(); due("city(" + a + ")", x.city(a), m.city(a)); }
            case "torn" -> { String t = letters().replace('b', random.nextBoolean() ? '?' : 'b');
                if (t.length() > 8) t = t.substring(0, 8);
                if (random.nextInt(9) == 0) t = "?" + t.substring(1);
                if (random.nextInt(20) == 0) t = "A" + t.substring(1);
                v = random.nextLong();
                for (char s : t.toCharArray()) v = v << 8 | s;
                a = random.nextInt(30) == 0 ? pick(-1, 10) : t.length(); b = pick(0, 2);
                due("torn(" + v + "," + a + "," + b + ")", x.torn(v, a, b), m.torn(v, a, b)); }
            case "paths" -> { a = pick(0, 1);
                if (parties < 6 || random.nextInt(12) == 0) due("paths(" + a + ")", x.paths(a), m.paths(a)); }
            case "lessons" -> { a = pick(1, 9); b = pick(1, 9); c = pick(1, 9); d = pick(1, 10); e = pick(1, 30); f = pick(0, Math.max(0, Math.min(8, a - 1)));
                due("lessons(" + a + "," + b + "," + c + "," + d + "," + e + "," + f + ")", x.lessons(a, b, c, d, e, f), m.lessons(a, b, c, d, e, f)); }
            case "count" -> { a = pick(0, 4); due("count(" + a + ")", x.count(a), m.count(a)); }
            default -> due("trace()", x.trace(), m.trace);
        }
    }

    private void run() {
        int most = 200 + random.nextInt(250);
        int seeds = random.nextInt(20);
        for (int i = 0; i < seeds; i++) { tell(0); if (i % 2 == 0) tell(10); tell(5); }
        // What calls behind the 512th answer is free, and one tell() makes some 80 at most.
        for (int i = 0; i < most && asked < 430; i++) {
            int which = random.nextInt(CALLS.length);
            if ((which == 0 || which == 10) && random.nextInt(3) > 0) which = 19;
            tell(which);
        }
    }

    /** A HALL near or at its limit of 12 CHILDREN and 6 HOUSES, with few KIN groups, so that BEST LODGING is hard. */
    private void hardHall() {
        int kids = 6 + random.nextInt(7), groups = 1 + random.nextInt(6);
        // The model tries all there is, so with many children only a few houses.
        int places = 2 + random.nextInt(kids > 10 ? 2 : kids > 7 ? 3 : 5);
        for (int what = 1; what < 3; what++) due("train(0," + what + ",48)", x.train(0, what, 48), m.train(0, what, 48));
        for (int i = 0; i < kids; i++) {
            int sex = random.nextInt(2), age = 1 + random.nextInt(15), kin = random.nextInt(groups + 1);
            due("child(" + sex + "," + age + "," + kin + ",0)", x.child(sex, age, kin, 0), m.child(sex, age, kin, 0));
        }
        for (int i = 0; i < places; i++) {
            int beds = 1 + random.nextInt(4), takes = random.nextBoolean() ? 15 : random.nextInt(16);
            due("house(0,1," + beds + "," + takes + ",0)", x.house(0, 1, beds, takes, 0), m.house(0, 1, beds, takes, 0));
        }
        for (int what = 0; what < 2; what++) due("best(0," + what + ")", x.best(0, what), m.best(0, what));
    }

    public static void main(String[] args) {
        long runs = args.length > 0 ? Long.parseLong(args[0]) : 300;
        long first = args.length > 1 ? Long.parseLong(args[1]) : 0;
        for (long seed = first; seed < first + runs; seed++) new FuzzTest(seed).run();
        for (long seed = first; seed < first + runs / 3; seed++) new FuzzTest(seed).hardHall();
        for (String call : CALLS) {
            if (!call.equals("trace") && plain.getOrDefault(call, 0) < 20) {
                wrong++;
                System.out.println(call + " was hardly asked: " + plain.get(call));
            }
        }
        System.out.println(calls + " calls, " + wrong + " answers are not as due");
        if (wrong != 0) System.exit(1);
    }
}
