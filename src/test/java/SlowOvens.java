import java.util.ArrayList;
import java.util.Arrays;
import java.util.List;
import java.util.regex.Matcher;
import java.util.regex.Pattern;

/** The document told again in the plainest way, slow and without anything kept, to be compared with FieldOvens. */
final class SlowOvens {
    static final int NONE = -1, UNKNOWN = -101, OUTSIDE = -102, STATE = -103, FULL = -104;
    static final Pattern LAND = Pattern.compile(
            "[0-9]{1,3}w?(,[0-9]{1,3}w?){1,7};b[1-9][0-9]?d[0-9]k[1-9](r[0-9]{1,3})?", Pattern.DOTALL);
    static final Pattern MARCH = Pattern.compile(
            "[1-9][0-9]?:([fbs][2-9]?|c[1-9]|m[1-9][0-9]?)+", Pattern.DOTALL);
    static final Pattern TOLD = Pattern.compile(
            "[0-7]d[0-9]{1,2}-[0-9]{1,2}(,[0-7]d[0-9]{1,2}-[0-9]{1,2}){0,5}", Pattern.DOTALL);
    static final Pattern ITEM = Pattern.compile("([fbs])([2-9]?)|c([1-9]?)|m([1-9]?[0-9]?)");

    record Land(int[] flour, boolean[] wood, int bakes, int build, int keep, int biscuit) {
        int places() {
            return flour.length;
        }

        Land with(int place, int flourThen) {
            int[] copy = flour.clone();
            copy[place] = flourThen;
            return new Land(copy, wood, bakes, build, keep, biscuit);
        }
    }

    record March(int[] men, String steps, int[] tenths) {
        int days() {
            return men.length;
        }

        int wayOn() {
            return (1 << tenths.length) - 1;
        }
    }

    record Plan(int kind, int k, int n, String text) {
    }

    record Stand(int place, int from, int to) {
    }

    String page = "";
    Land land = null;
    final List<March> marches = new ArrayList<>();
    final List<Plan> plans = new ArrayList<>();
    int[] image = null;
    int landsRead = 0, five = 0;

    // ---- texts

    int letters(long w) {
        StringBuilder more = new StringBuilder();
        boolean over = false;
        for (int i = 0; i < 8; i++) {
            int code = (int) (w >>> 8 * i & 255);
            if (code > 126 || over && code != 0) return OUTSIDE;
            if (code == 0) over = true;
            else more.append((char) code);
        }
        if (page.length() + more.length() > 60) return FULL;
        page += more;
        return page.length();
    }

    int blank() {
        int had = page.length();
        page = "";
        return had;
    }

    int fault(int sort) {
        if (sort < 0 || sort > 2) return OUTSIDE;
        for (int i = 1; i <= page.length(); i++) {
            if (!canStand(sort, page.substring(0, i))) return i - 1;
        }
        return page.length();
    }

    private static boolean canStand(int sort, String start) {
        Matcher matcher = (sort == 0 ? LAND : sort == 1 ? MARCH : TOLD).matcher(start);
        boolean fits = matcher.matches() || matcher.hitEnd();
        return fits && (sort != 1 || !tooLong(start));
    }

    private static boolean tooLong(String march) {
        int days = 0, chances = 0;
        Matcher item = ITEM.matcher(march);
        int at = march.indexOf(':') + 1;
        while (at > 0 && at < march.length() && item.find(at)) {
            if (item.group(1) != null) days += item.group(2).isEmpty() ? 1 : Integer.parseInt(item.group(2));
            if (item.group(3) != null) {
                days++;
                chances++;
            }
            at = item.end();
        }
        return days > 10 || chances > 2;
    }

    int land() {
        if (!LAND.matcher(page).matches()) return STATE;
        land = readLand(page);
        landsRead++;
        image = null;
        page = "";
        return land.places();
    }

    private static Land readLand(String text) {
        String[] halves = text.split(";");
        String[] places = halves[0].split(",");
        int[] flour = new int[places.length];
        boolean[] wood = new boolean[places.length];
        for (int p = 0; p < places.length; p++) {
            wood[p] = places[p].endsWith("w");
            flour[p] = Integer.parseInt(places[p].replace("w", ""));
        }
        String[] ovens = halves[1].split("[bdkr]");
        return new Land(flour, wood, Integer.parseInt(ovens[1]), Integer.parseInt(ovens[2]),
                Integer.parseInt(ovens[3]), ovens.length > 4 ? Integer.parseInt(ovens[4]) : 0);
    }

    int march() {
        if (!MARCH.matcher(page).matches() || tooLong(page)) return STATE;
        int colon = page.indexOf(':');
        int now = Integer.parseInt(page.substring(0, colon));
        List<Integer> men = new ArrayList<>();
        List<Integer> tenths = new ArrayList<>();
        StringBuilder steps = new StringBuilder();
        Matcher item = ITEM.matcher(page);
        for (int at = colon + 1; at < page.length(); at = item.end()) {
            item.find(at);
            if (item.group(4) != null) now = Integer.parseInt(item.group(4));
            int many = item.group(1) == null || item.group(2).isEmpty() ? 1 : Integer.parseInt(item.group(2));
            if (item.group(3) != null) tenths.add(Integer.parseInt(item.group(3)));
            for (int i = 0; i < many && item.group(4) == null; i++) {
                men.add(now);
                steps.append(item.group(1) == null ? "c" : item.group(1));
            }
        }
        if (men.isEmpty()) return STATE;
        if (marches.size() == 4) return FULL;
        marches.add(new March(ints(men), steps.toString(), ints(tenths)));
        page = "";
        return marches.size() - 1;
    }

    private static int[] ints(List<Integer> list) {
        return list.stream().mapToInt(i -> i).toArray();
    }

    int plan(int kind, int k, int n) {
        boolean fits = switch (kind) {
            case 0 -> k >= 1 && k <= 3 && n >= 0 && n <= 7;
            case 1, 2 -> k >= 1 && k <= 3 && n >= 1 && n <= 9;
            case 3 -> (k == 1 || k == 2) && n == 0;
            default -> false;
        };
        if (!fits) return OUTSIDE;
        if (plans.size() == 8) return FULL;
        plans.add(new Plan(kind, k, n, ""));
        return plans.size() - 1;
    }

    int tell() {
        if (!TOLD.matcher(page).matches()) return STATE;
        if (plans.size() == 8) return FULL;
        plans.add(new Plan(4, 0, 0, page));
        page = "";
        return plans.size() - 1;
    }

    int as(int plan, int kind) {
        if (noPlan(plan)) return UNKNOWN;
        if (kind < 0 || kind > 4) return OUTSIDE;
        int own = plans.get(plan).kind;
        return kind == 0 || kind == own || kind == 1 && own == 2 ? plan : NONE;
    }

    int landTold(int what) {
        if (land == null) return STATE;
        if (what < 0 || what > 4) return OUTSIDE;
        return new int[] {land.places(), land.bakes, land.build, land.keep, land.biscuit}[what];
    }

    int place(int place, int what) {
        if (noPlace(place)) return UNKNOWN;
        if (what != 0 && what != 1) return OUTSIDE;
        return what == 0 ? land.flour[place] : land.wood[place] ? 1 : 0;
    }

    int flour(int place, int v) {
        if (noPlace(place)) return UNKNOWN;
        if (v < 0 || v > 999) return OUTSIDE;
        int was = land.flour[place];
        land = land.with(place, v);
        return was;
    }

    int marchTold(int march, int what) {
        if (noMarch(march)) return UNKNOWN;
        March m = marches.get(march);
        if (what == 0) return m.days();
        if (what == 1) return m.tenths.length;
        if (what >= 10 && what <= 19) return what - 10 < m.days() ? m.men[what - 10] : NONE;
        if (what == 20 || what == 21) return what - 20 < m.tenths.length ? m.tenths[what - 20] : NONE;
        return OUTSIDE;
    }

    int at(int march, int way, int day) {
        if (noMarch(march) || day < 0 || day >= marches.get(march).days()) return UNKNOWN;
        if (land == null) return STATE;
        if (noWay(march, way)) return OUTSIDE;
        return column(land, marches.get(march), way)[day];
    }

    private boolean noPlan(int plan) {
        return plan < 0 || plan >= plans.size();
    }

    private boolean noMarch(int march) {
        return march < 0 || march >= marches.size();
    }

    private boolean noPlace(int place) {
        return land == null || place < 0 || place >= land.places();
    }

    private boolean noWay(int march, int way) {
        return way < 0 || way > marches.get(march).wayOn();
    }

    static int[] column(Land land, March march, int way) {
        int[] at = new int[march.days()];
        int here = 0, chance = 0;
        for (int day = 0; day < at.length; day++) {
            char step = march.steps.charAt(day);
            if (step == 'c') step = (way >> chance++ & 1) == 1 ? 'f' : 's';
            if (step == 'f' && here < land.places() - 1) here++;
            if (step == 'b' && here > 0) here--;
            at[day] = here;
        }
        return at;
    }

    // ---- stands

    static List<Stand> stands(Land land, March march, Plan plan) {
        List<Stand> told = new ArrayList<>();
        if (plan.kind == 0) {
            for (int i = 0; i < plan.k; i++) told.add(new Stand(plan.n, plan.n, march.days() - 1));
        } else if (plan.kind == 1 || plan.kind == 2) {
            follow(land, march, plan, told);
        } else if (plan.kind == 3) {
            return best(land, march, plan.k);
        } else {
            for (String text : plan.text.split(",")) {
                String[] parts = text.split("[d-]");
                told.add(new Stand(Integer.parseInt(parts[0]), Integer.parseInt(parts[1]), Integer.parseInt(parts[2])));
            }
        }
        return real(land, march, told);
    }

    private static List<Stand> real(Land land, March march, List<Stand> told) {
        List<Stand> real = new ArrayList<>();
        for (Stand s : told) {
            if (s.place >= land.places() || !land.wood[s.place]) continue;
            if (s.from > march.days() - 1 || s.from > s.to) continue;
            real.add(new Stand(s.place, s.from, Math.min(s.to, march.days() - 1)));
        }
        real.sort((a, b) -> a.from != b.from ? a.from - b.from : a.place != b.place ? a.place - b.place : a.to - b.to);
        return real;
    }

    private static int spot(Land land, March march, Plan plan, int t) {
        int[] column = column(land, march, march.wayOn());
        int seen = plan.kind == 2 ? Math.min(t + plan.n, march.days() - 1) : t;
        for (int p = column[seen]; p >= 0; p--) if (land.wood[p]) return p;
        return NONE;
    }

    private static void follow(Land land, March march, Plan plan, List<Stand> told) {
        int t = 0, ahead = NONE;
        while (true) {
            while (t < march.days() && spot(land, march, plan, t) == NONE) t++;
            if (t >= march.days()) return;
            int spot = spot(land, march, plan, t);
            if (ahead != NONE) t += Math.abs(spot - ahead);
            if (t >= march.days()) return;
            for (int i = 0; i < plan.k; i++) told.add(new Stand(spot, t, t + plan.n - 1));
            ahead = spot;
            t += plan.n;
        }
    }

    private static List<Stand> best(Land land, March march, int k) {
        List<Stand> best = new ArrayList<>();
        long least = Long.MAX_VALUE;
        for (int a = 0; a < land.places(); a++) {
            for (int b = a; b < land.places(); b++) {
                if (!land.wood[a] || !land.wood[b] || k == 1 && a != b) continue;
                List<Stand> told = new ArrayList<>();
                told.add(new Stand(a, a, 99));
                if (k == 2) told.add(new Stand(b, b, 99));
                List<Stand> choice = real(land, march, told);
                int[] fed = feed(land, march, choice, march.wayOn(), 0, march.days());
                long worth = fed[0] * 1000000L + fed[1];
                if (worth < least) {
                    least = worth;
                    best = choice;
                }
            }
        }
        return best;
    }

    static int bakes(Land land, List<Stand> stands, int place, int day, int early) {
        int sum = 0;
        for (Stand s : stands) {
            if (s.place == place && day >= s.from - early + land.build && day <= s.to) sum += land.bakes;
        }
        return sum;
    }

    /** HUNGRY and CARRIED over the first days: a ration is sent by the cheapest path until there is none. */
    static int[] feed(Land land, March march, List<Stand> stands, int way, int early, int days) {
        int[] column = column(land, march, way);
        int spans = march.days() + early, ovens = land.places() * spans;
        // Nodes: source, sink, flour of places, ovens in, ovens out, days.
        int in = 2 + land.places(), out = in + ovens, day0 = out + ovens;
        List<int[]> edges = new ArrayList<>();
        int men = 0;
        for (int u = 0; u < days; u++) {
            edges.add(new int[] {day0 + u, 1, march.men[u], 0});
            men += march.men[u];
        }
        for (int p = 0; p < land.places(); p++) {
            edges.add(new int[] {0, 2 + p, land.flour[p], 0});
            for (int t = -early; t < march.days(); t++) {
                int most = bakes(land, stands, p, t, early), oven = p * spans + t + early;
                if (most == 0) continue;
                edges.add(new int[] {2 + p, in + oven, 100000, 0});
                if (p != 0 && t >= p - early) edges.add(new int[] {2, in + oven, 100000, p});
                edges.add(new int[] {in + oven, out + oven, most, 0});
                for (int u = 0; u < days; u++) {
                    int distance = Math.abs(column[u] - p);
                    if (u - t >= distance && u - t <= land.keep) {
                        edges.add(new int[] {out + oven, day0 + u, 100000, distance});
                    }
                }
            }
        }
        int[] sent = cheapest(edges, day0 + days);
        return new int[] {men - sent[0], sent[1]};
    }

    private static int[] cheapest(List<int[]> list, int nodes) {
        int m = list.size();
        int[] from = new int[2 * m], to = new int[2 * m], room = new int[2 * m], cost = new int[2 * m];
        for (int i = 0; i < m; i++) {
            int[] e = list.get(i);
            from[i] = to[m + i] = e[0];
            to[i] = from[m + i] = e[1];
            room[i] = e[2];
            cost[i] = e[3];
            cost[m + i] = -e[3];
        }
        int flow = 0, spent = 0;
        while (true) {
            int[] dist = new int[nodes], by = new int[nodes];
            Arrays.fill(dist, 1 << 29);
            dist[0] = 0;
            boolean changed = true;
            while (changed) {
                changed = false;
                for (int e = 0; e < 2 * m; e++) {
                    if (room[e] > 0 && dist[from[e]] < 1 << 29 && dist[from[e]] + cost[e] < dist[to[e]]) {
                        dist[to[e]] = dist[from[e]] + cost[e];
                        by[to[e]] = e;
                        changed = true;
                    }
                }
            }
            if (dist[1] == 1 << 29) return new int[] {flow, spent};
            int most = Integer.MAX_VALUE;
            for (int v = 1; v != 0; v = from[by[v]]) most = Math.min(most, room[by[v]]);
            for (int v = 1; v != 0; v = from[by[v]]) {
                int e = by[v];
                room[e] -= most;
                room[e < m ? e + m : e - m] += most;
            }
            flow += most;
            spent += most * dist[1];
        }
    }

    // ---- plans

    private int refusal(int plan, int march) {
        return noPlan(plan) || noMarch(march) ? UNKNOWN : land == null ? STATE : 0;
    }

    private List<Stand> standsOf(int plan, int march) {
        return stands(land, marches.get(march), plans.get(plan));
    }

    private int[] fed(int plan, int march, int way) {
        March m = marches.get(march);
        return feed(land, m, standsOf(plan, march), way, 0, m.days());
    }

    int stand(int plan, int march, int what) {
        int refused = refusal(plan, march);
        if (refused != 0) return refused;
        boolean fits = what == 0;
        for (int i = 0; i <= 11; i++) fits |= what >= 10 * i + 11 && what <= 10 * i + 13;
        if (!fits) return OUTSIDE;
        List<Stand> stands = standsOf(plan, march);
        if (what == 0) return stands.size();
        int i = (what - 11) / 10;
        if (i >= stands.size()) return NONE;
        Stand s = stands.get(i);
        return what % 10 == 1 ? s.place : what % 10 == 2 ? s.from : s.to;
    }

    int bakes(int plan, int march, int place, int day) {
        int refused = refusal(plan, march);
        if (refused != 0) return refused;
        if (noPlace(place) || day < 0 || day >= marches.get(march).days()) return UNKNOWN;
        return bakes(land, standsOf(plan, march), place, day, 0);
    }

    int hungry(int plan, int march, int way) {
        int refused = refusal(plan, march);
        return refused != 0 ? refused : noWay(march, way) ? OUTSIDE : fed(plan, march, way)[0];
    }

    int carried(int plan, int march, int way) {
        int refused = refusal(plan, march);
        return refused != 0 ? refused : noWay(march, way) ? OUTSIDE : fed(plan, march, way)[1];
    }

    int lack(int plan, int march, int way) {
        int refused = refusal(plan, march);
        if (refused != 0) return refused;
        if (noWay(march, way)) return OUTSIDE;
        return lack(marches.get(march), standsOf(plan, march), way, land.biscuit);
    }

    private int lack(March march, List<Stand> stands, int way, int bearable) {
        for (int d = 0; d < march.days(); d++) {
            if (feed(land, march, stands, way, 0, d + 1)[0] > bearable) return d;
        }
        return NONE;
    }

    /** Both means as whole numbers of which the march's all chances are one. */
    private int[] means(int plan, int march) {
        March m = marches.get(march);
        int[] sum = {0, 0};
        for (int way = 0; way <= m.wayOn(); way++) {
            int chance = 1;
            for (int i = 0; i < m.tenths.length; i++) chance *= (way >> i & 1) == 1 ? m.tenths[i] : 10 - m.tenths[i];
            int[] fed = fed(plan, march, way);
            sum[0] += chance * fed[0];
            sum[1] += chance * fed[1];
        }
        return sum;
    }

    int mean(int plan, int march, int what, int part) {
        int refused = refusal(plan, march);
        if (refused != 0) return refused;
        if (what < 0 || what > 1 || part < 0 || part > 1) return OUTSIDE;
        int above = means(plan, march)[what];
        int below = marches.get(march).tenths.length == 2 ? 100 : marches.get(march).tenths.length == 1 ? 10 : 1;
        for (int d = below; d > 1; d--) {
            if (above % d == 0 && below % d == 0) {
                above /= d;
                below /= d;
            }
        }
        return part == 0 ? above : below;
    }

    int worst(int plan, int march, int what) {
        int refused = refusal(plan, march);
        if (refused != 0) return refused;
        if (what < 0 || what > 1) return OUTSIDE;
        int way = marches.get(march).wayOn(), most = fed(plan, march, way)[0];
        for (int w = way - 1; w >= 0; w--) {
            int hungry = fed(plan, march, w)[0];
            if (hungry >= most) {
                most = hungry;
                way = w;
            }
        }
        return what == 0 ? way : most;
    }

    int run(int plan, int march, int seed, int what) {
        int refused = refusal(plan, march);
        if (refused != 0) return refused;
        if (seed < 0 || what < 0 || what > 2) return OUTSIDE;
        int way = 0, bit = 1;
        long s = seed;
        for (int tenths : marches.get(march).tenths) {
            s = (1103515245L * s + 12345) % (1L << 31);
            if (s / 65536 % 10 < tenths) way += bit;
            bit *= 2;
        }
        return what == 0 ? way : what == 1 ? fed(plan, march, way)[0] : (int) s;
    }

    // ---- what else could be

    int ahead(int plan, int march) {
        int refused = refusal(plan, march);
        if (refused != 0) return refused;
        if (five == 30) return STATE;
        five++;
        March m = marches.get(march);
        List<Stand> stands = standsOf(plan, march);
        for (int e = 0; e <= 9; e++) if (feed(land, m, stands, m.wayOn(), e, m.days())[0] == 0) return e;
        return NONE;
    }

    int far(int plan, int men) {
        if (noPlan(plan)) return UNKNOWN;
        if (land == null) return STATE;
        if (men < 1 || men > 99) return OUTSIDE;
        if (five == 30) return STATE;
        five++;
        int[] all = new int[land.places() - 1];
        Arrays.fill(all, men);
        March road = new March(all, "f".repeat(all.length), new int[0]);
        List<Stand> stands = stands(land, road, plans.get(plan));
        int most = 0;
        for (int d = 1; d <= all.length; d++) if (feed(land, road, stands, 0, 0, d)[0] == 0) most = d;
        return most;
    }

    private int hungryIn(Land changed, Plan plan, March march) {
        return feed(changed, march, stands(changed, march, plan), march.wayOn(), 0, march.days())[0];
    }

    int burnt(int plan, int march, int what) {
        int refused = refusal(plan, march);
        if (refused != 0) return refused;
        if (what < 0 || what > 1) return OUTSIDE;
        if (five == 30) return STATE;
        five++;
        Plan p = plans.get(plan);
        March m = marches.get(march);
        int now = hungryIn(land, p, m), place = 0, most = -1;
        for (int q = 1; q < land.places(); q++) {
            int more = hungryIn(land.with(q, 0), p, m) - now;
            if (more > most) {
                most = more;
                place = q;
            }
        }
        return what == 0 ? place : most;
    }

    int more(int plan, int march, int what) {
        int refused = refusal(plan, march);
        if (refused != 0) return refused == UNKNOWN ? -100001 : -100003;
        if (what < 0 || what > 4) return -100002;
        Plan p = plans.get(plan);
        if (what == 0 && (p.kind >= 3 || p.k == 3) || five == 30) return -100003;
        five++;
        March m = marches.get(march);
        Land l = land;
        Land then = new Land(l.flour, l.wood, what == 1 ? l.bakes + 1 : l.bakes,
                what == 4 && l.build > 0 ? l.build - 1 : l.build, what == 2 ? l.keep + 1 : l.keep, l.biscuit);
        if (what == 3) then = then.with(0, l.flour[0] + 10);
        return hungryIn(l, p, m) - hungryIn(then, what == 0 ? new Plan(p.kind, p.k + 1, p.n, "") : p, m);
    }

    int which(int march) {
        if (noMarch(march)) return UNKNOWN;
        if (land == null || five == 30) return STATE;
        five++;
        int best = NONE;
        long least = Long.MAX_VALUE;
        for (int plan = 0; plan < plans.size(); plan++) {
            int[] means = means(plan, march);
            long worth = means[0] * 10000000L + means[1];
            if (worth < least) {
                least = worth;
                best = plan;
            }
        }
        return best;
    }

    // ---- what is told

    int image() {
        if (land == null) return STATE;
        image = land.flour.clone();
        return Arrays.stream(image).sum();
    }

    int restore() {
        if (image == null) return STATE;
        for (int p = 0; p < image.length; p++) land = land.with(p, image[p]);
        return Arrays.stream(image).sum();
    }

    int count(int what) {
        if (what < 0 || what > 5) return OUTSIDE;
        int places = land == null ? 0 : land.places();
        return new int[] {places, marches.size(), plans.size(), page.length(), landsRead, five}[what];
    }

    long digest() {
        List<Long> told = new ArrayList<>();
        if (land != null) {
            for (int what = 0; what <= 4; what++) told.add((long) landTold(what));
            for (int p = 0; p < land.places(); p++) {
                told.add((long) place(p, 0));
                told.add((long) place(p, 1));
            }
        }
        for (March m : marches) {
            told.add((long) m.days());
            for (int men : m.men) told.add((long) men);
            for (int tenths : m.tenths) told.add((long) tenths);
            if (land != null) for (int at : column(land, m, m.wayOn())) told.add((long) at);
        }
        for (Plan p : plans) {
            told.add((long) p.kind);
            told.add((long) p.k);
            told.add((long) p.n);
            if (p.kind != 3 && land != null && !marches.isEmpty()) {
                told.add((long) stands(land, marches.get(0), p).size());
                told.add((long) hungryIn(land, p, marches.get(0)));
            }
        }
        for (char letter : page.toCharArray()) told.add((long) letter);
        for (int what = 0; what <= 5; what++) told.add((long) count(what));
        long h = 397;
        for (long number : told) h = 31 * h + number;
        return h;
    }
}
