import java.util.ArrayList;
import java.util.Arrays;
import java.util.List;

/**
 * The document told a second time, by slow and plain ways that share nothing with the class:
 * all simple paths, all sets of roads, all orders of towns. Only for tests.
 */
final class Twin {
    static final int NONE = -6, UNKNOWN = -1, OUTSIDE = -2, STATE = -3, FULL = -4, NO = -5;
    static final long LOST = -1000000000000000000L;

    /** One of the people. */
    static final class One {
        boolean there;
        int home, at, purse, walked;
        int[] size = new int[2];
        /** -1: no shoe on that side. */
        int[] wear = {-1, -1};

        One copy() {
            One c = new One();
            c.there = there;
            c.home = home;
            c.at = at;
            c.purse = purse;
            c.walked = walked;
            c.size = size.clone();
            c.wear = wear.clone();
            return c;
        }

        int shoes() {
            return (wear[0] >= 0 ? 1 : 0) + (wear[1] >= 0 ? 1 : 0);
        }
    }

    /** All but the pad. */
    static final class World {
        int n = 4, toll = 1, k = 3;
        int[][] miles = new int[6][6];
        int[][] rule = new int[6][6];
        int[][][] trod = new int[6][6][3];
        int[] side = new int[6];
        int[] price = new int[6];
        int[][] stock = new int[6][5];
        One[] people = {new One(), new One(), new One(), new One()};
        List<int[]> sights = new ArrayList<>();

        World copy() {
            World c = new World();
            c.n = n;
            c.toll = toll;
            c.k = k;
            for (int a = 0; a < 6; a++) {
                c.miles[a] = miles[a].clone();
                c.rule[a] = rule[a].clone();
                c.stock[a] = stock[a].clone();
                for (int b = 0; b < 6; b++) {
                    c.trod[a][b] = trod[a][b].clone();
                }
            }
            c.side = side.clone();
            c.price = price.clone();
            for (int p = 0; p < 4; p++) {
                c.people[p] = people[p].copy();
            }
            c.sights.addAll(sights);
            return c;
        }

        boolean limps(One o) {
            if (o.shoes() == 1) {
                return true;
            }
            return o.shoes() == 2 && Math.abs(o.wear[0] - o.wear[1]) >= k;
        }

        boolean open(int a, int b, boolean limps) {
            if (miles[a][b] == 0) {
                return false;
            }
            switch (rule[a][b]) {
                case 1: return limps;
                case 2: return !limps;
                default: return true;
            }
        }

        int why(char who, char deed) {
            One o = people[who - 'A'];
            if (!o.there) {
                return 1;
            }
            if (deed >= 'a' && deed <= 'f') {
                int to = deed - 'a';
                if (to == o.at || miles[o.at][to] == 0) {
                    return 2;
                }
                return open(o.at, to, limps(o)) ? 0 : 3;
            }
            if (deed == '+') {
                int s = side[o.at] - 1;
                if (s < 0 || stock[o.at][o.size[s]] == 0) {
                    return 4;
                }
                if (o.wear[s] >= 0) {
                    return 5;
                }
                return o.purse < price[o.at] ? 6 : 0;
            }
            return 0;
        }

        void step(char who, char deed) {
            One o = people[who - 'A'];
            if (deed == '-') {
                o.wear = new int[] {-1, -1};
            } else if (deed == '+') {
                int s = side[o.at] - 1;
                stock[o.at][o.size[s]]--;
                o.purse -= price[o.at];
                o.wear[s] = 0;
            } else {
                int to = deed - 'a';
                int m = miles[o.at][to];
                for (int s = 0; s < 2; s++) {
                    int which = o.wear[s] >= 0 ? s : 2;
                    trod[o.at][to][which] += m;
                    trod[to][o.at][which] = trod[o.at][to][which];
                    if (o.wear[s] >= 0) {
                        o.wear[s] += m;
                    }
                }
                o.walked += m;
                o.at = to;
            }
        }

        int state(int person, int what) {
            One o = people[person];
            int[] all = {o.at, o.purse, (o.wear[0] >= 0 ? 1 : 0) + (o.wear[1] >= 0 ? 2 : 0),
                Math.max(0, o.wear[0]), Math.max(0, o.wear[1]), limps(o) ? 1 : 0, o.walked};
            return all[what];
        }

        void paths(int from, int to, boolean limps, List<Integer> sofar, List<List<Integer>> all) {
            sofar.add(from);
            if (from == to) {
                all.add(new ArrayList<>(sofar));
            } else {
                for (int next = 0; next < n; next++) {
                    if (!sofar.contains(next) && open(from, next, limps)) {
                        paths(next, to, limps, sofar, all);
                    }
                }
            }
            sofar.remove(sofar.size() - 1);
        }

        int length(List<Integer> path) {
            int sum = 0;
            for (int i = 1; i < path.size(); i++) {
                sum += miles[path.get(i - 1)][path.get(i)];
            }
            return sum;
        }

        List<Integer> best(int from, int to, boolean limps) {
            List<List<Integer>> all = new ArrayList<>();
            paths(from, to, limps, new ArrayList<>(), all);
            List<Integer> best = null;
            for (List<Integer> path : all) {
                if (best == null || key(path).compareTo(key(best)) < 0) {
                    best = path;
                }
            }
            return best;
        }

        String key(List<Integer> path) {
            StringBuilder s = new StringBuilder();
            s.append((char) (1000 + length(path))).append((char) path.size());
            for (int t : path) {
                s.append((char) t);
            }
            return s.toString();
        }

        /** -1: no way. */
        int far(int from, int to, boolean limps) {
            List<Integer> path = best(from, to, limps);
            return path == null ? -1 : length(path);
        }
    }

    World w = new World();
    StringBuilder pad = new StringBuilder();
    World[] images = new World[2];

    boolean town(int t) {
        return t >= 0 && t < w.n;
    }

    boolean there(int p) {
        return p >= 0 && p < 4 && w.people[p].there;
    }

    int here() {
        int c = 0;
        for (One o : w.people) {
            c += o.there ? 1 : 0;
        }
        return c;
    }

    static boolean in(int v, int a, int b) {
        return a <= v && v <= b;
    }

    int towns(int n) {
        if (!in(n, 2, 6)) {
            return OUTSIDE;
        }
        World old = w;
        w = new World();
        w.n = n;
        w.toll = old.toll;
        w.k = old.k;
        return old.n;
    }

    int road(int a, int b, int m, int r) {
        if (!town(a) || !town(b) || a == b) {
            return UNKNOWN;
        }
        if (!in(m, 0, 9) || !in(r, 0, 2)) {
            return OUTSIDE;
        }
        int was = w.miles[a][b];
        w.miles[a][b] = m;
        w.miles[b][a] = m;
        w.rule[a][b] = r;
        w.rule[b][a] = r;
        w.trod[a][b] = new int[3];
        w.trod[b][a] = new int[3];
        return was;
    }

    int shop(int t, int s, int p) {
        if (!town(t)) {
            return UNKNOWN;
        }
        if (!in(s, 0, 2) || !in(p, 0, 20)) {
            return OUTSIDE;
        }
        int was = w.side[t];
        w.side[t] = s;
        w.price[t] = p;
        return was;
    }

    int stock(int t, int s, int v) {
        if (!town(t) || !in(s, 0, 4)) {
            return UNKNOWN;
        }
        if (!in(v, 0, 9)) {
            return OUTSIDE;
        }
        int was = w.stock[t][s];
        w.stock[t][s] = v;
        return was;
    }

    int person(int p, int h, int l, int r, int purse) {
        if (!in(p, 0, 3) || !town(h) || !in(l, 0, 4) || !in(r, 0, 4)) {
            return UNKNOWN;
        }
        if (!in(purse, 0, 99)) {
            return OUTSIDE;
        }
        One o = new One();
        o.there = true;
        o.home = h;
        o.at = h;
        o.size = new int[] {l, r};
        o.purse = purse;
        w.people[p] = o;
        return here();
    }

    int leave(int p) {
        if (!there(p)) {
            return UNKNOWN;
        }
        w.people[p] = new One();
        return here();
    }

    int set(int which, int v) {
        int was;
        if (which == 0 && in(v, 0, 9)) {
            was = w.toll;
            w.toll = v;
        } else if (which == 1 && in(v, 1, 9)) {
            was = w.k;
            w.k = v;
        } else {
            return OUTSIDE;
        }
        return was;
    }

    int say(int sign) {
        if (!in(sign, 33, 126)) {
            return OUTSIDE;
        }
        if (pad.length() == 60) {
            return FULL;
        }
        pad.append((char) sign);
        return pad.length();
    }

    int wipe() {
        int was = pad.length();
        pad.setLength(0);
        return was;
    }

    int fault() {
        String whos = "ABCD?";
        String deeds = "abcdef".substring(0, w.n) + "+-";
        int marks = 0;
        for (int i = 0; i < pad.length(); i++) {
            char c = pad.charAt(i);
            String may = i % 2 == 0 ? whos : deeds;
            if (may.indexOf(c) < 0) {
                return i;
            }
            if (c == '?' && ++marks == 4) {
                return i;
            }
        }
        return pad.length() % 2 == 1 ? pad.length() : NONE;
    }

    /** {step, why} of the first bad one, or null; plays on the world. */
    int[] play(World v, String text) {
        for (int i = 0; i < text.length(); i += 2) {
            int why = v.why(text.charAt(i), text.charAt(i + 1));
            if (why != 0) {
                return new int[] {i / 2, why};
            }
            v.step(text.charAt(i), text.charAt(i + 1));
        }
        return null;
    }

    int judge(int what) {
        if (!in(what, 0, 1)) {
            return OUTSIDE;
        }
        if (fault() != NONE) {
            return NO;
        }
        if (pad.indexOf("?") >= 0) {
            return STATE;
        }
        int[] bad = play(w.copy(), pad.toString());
        return bad == null ? NONE : bad[what];
    }

    int refusal() {
        if (fault() != NONE) {
            return NO;
        }
        if (pad.indexOf("?") >= 0) {
            return STATE;
        }
        return play(w.copy(), pad.toString()) == null ? 0 : NO;
    }

    int done() {
        int r = refusal();
        if (r != 0) {
            return r;
        }
        play(w, pad.toString());
        return wipe() / 2;
    }

    int state(int p, int what) {
        if (!there(p)) {
            return UNKNOWN;
        }
        return in(what, 0, 6) ? w.state(p, what) : OUTSIDE;
    }

    int behind(int p, int what) {
        if (!there(p)) {
            return UNKNOWN;
        }
        if (!in(what, 0, 6)) {
            return OUTSIDE;
        }
        if (refusal() != 0) {
            return refusal();
        }
        World v = w.copy();
        play(v, pad.toString());
        return v.state(p, what);
    }

    int trodden(int a, int b, int which) {
        if (!town(a) || !town(b) || a == b) {
            return UNKNOWN;
        }
        if (!in(which, 0, 2)) {
            return OUTSIDE;
        }
        return w.miles[a][b] == 0 ? STATE : w.trod[a][b][which];
    }

    int givesOut(int d, int what) {
        if (!in(d, 1, 99) || !in(what, 0, 2)) {
            return OUTSIDE;
        }
        if (refusal() != 0) {
            return refusal();
        }
        World v = w.copy();
        for (int i = 0; i < pad.length(); i += 2) {
            v.step(pad.charAt(i), pad.charAt(i + 1));
            if (Character.isLetter(pad.charAt(i + 1))) {
                int who = pad.charAt(i) - 'A';
                for (int s = 0; s < 2; s++) {
                    if (v.people[who].wear[s] > d) {
                        return new int[] {i / 2, who, s}[what];
                    }
                }
            }
        }
        return NONE;
    }

    int far(int a, int b, int limps) {
        if (!town(a) || !town(b)) {
            return UNKNOWN;
        }
        if (!in(limps, 0, 1)) {
            return OUTSIDE;
        }
        int m = w.far(a, b, limps == 1);
        return m < 0 ? NONE : m;
    }

    int way(int p, int t, int i) {
        if (!there(p) || !town(t)) {
            return UNKNOWN;
        }
        List<Integer> path = w.best(w.people[p].at, t, w.limps(w.people[p]));
        if (path == null) {
            return NONE;
        }
        if (i == -1) {
            return w.length(path);
        }
        return in(i, 0, path.size() - 1) ? path.get(i) : NONE;
    }

    /** {cost, miles, first, second}, or null; shut: towns whose shops are shut, as bits. */
    int[] shodBy(int p, int shut) {
        World v = w.copy();
        for (int t = 0; t < 6; t++) {
            if ((shut >> t & 1) == 1) {
                v.side[t] = 0;
            }
        }
        int[][] best = {null};
        shop(v, p, 0, 0, new ArrayList<>(), best);
        return best[0];
    }

    void shop(World v, int p, int paid, int walked, List<Integer> at, int[][] best) {
        One o = v.people[p];
        if (o.shoes() == 2) {
            int m = v.far(o.at, o.home, v.limps(o));
            if (m < 0) {
                return;
            }
            int miles = walked + m;
            int[] found = {paid + v.toll * miles, miles, at.size() > 0 ? at.get(0) : NONE,
                at.size() > 1 ? at.get(1) : NONE};
            if (best[0] == null || found[0] < best[0][0]) {
                best[0] = found;
            }
            return;
        }
        for (int t = 0; t < v.n; t++) {
            int m = v.far(o.at, t, v.limps(o));
            if (m < 0 || at.contains(t)) {
                continue;
            }
            World u = v.copy();
            One b = u.people[p];
            for (int s = 0; s < 2; s++) {
                b.wear[s] = b.wear[s] >= 0 ? b.wear[s] + m : -1;
            }
            b.at = t;
            if (u.why((char) ('A' + p), '+') == 0) {
                int cost = u.price[t];
                u.step((char) ('A' + p), '+');
                at.add(t);
                shop(u, p, paid + cost, walked + m, at, best);
                at.remove(at.size() - 1);
            }
        }
    }

    int shod(int p, int what) {
        if (!there(p)) {
            return UNKNOWN;
        }
        if (!in(what, 0, 3)) {
            return OUTSIDE;
        }
        int[] plan = shodBy(p, 0);
        return plan == null ? NONE : plan[what];
    }

    int bestMiles;
    List<Integer> bestOrder;

    void orders(One o, int at, int rest, int sofar, List<Integer> order) {
        if (rest == 0) {
            int m = w.far(at, o.home, w.limps(o));
            if (m >= 0 && (bestOrder == null || sofar + m < bestMiles)) {
                bestMiles = sofar + m;
                bestOrder = new ArrayList<>(order);
            }
            return;
        }
        for (int t = 0; t < w.n; t++) {
            if ((rest >> t & 1) == 1) {
                int m = w.far(at, t, w.limps(o));
                if (m >= 0) {
                    order.add(t);
                    orders(o, t, rest ^ 1 << t, sofar + m, order);
                    order.remove(order.size() - 1);
                }
            }
        }
    }

    int round(int p, int set, int i) {
        if (!there(p)) {
            return UNKNOWN;
        }
        if (set < 0 || set >= 1 << w.n) {
            return OUTSIDE;
        }
        bestOrder = null;
        orders(w.people[p], w.people[p].at, set, 0, new ArrayList<>());
        if (bestOrder == null) {
            return NONE;
        }
        if (i == -1) {
            return bestMiles;
        }
        return in(i, 0, bestOrder.size() - 1) ? bestOrder.get(i) : NONE;
    }

    int walk(int... towns) {
        int sum = 0;
        for (int i = 1; i < towns.length; i++) {
            int m = w.far(towns[i - 1], towns[i], false);
            if (m < 0) {
                return -1;
            }
            sum += m;
        }
        return sum;
    }

    int together(int set, int x, int y, int what) {
        if (!town(x) || !town(y)) {
            return UNKNOWN;
        }
        if (!in(what, 0, 2) || !in(set, 1, 15)) {
            return OUTSIDE;
        }
        for (int p = 0; p < 4; p++) {
            if ((set >> p & 1) == 1 && !there(p)) {
                return OUTSIDE;
            }
        }
        int[] best = null;
        for (int l = 0; l < 4; l++) {
            for (int r = 0; r < 4; r++) {
                if ((set >> l & 1) == 0 || (set >> r & 1) == 0) {
                    continue;
                }
                int h = w.people[l].home;
                int g = w.people[r].home;
                int[] sums;
                if (l == r) {
                    sums = new int[] {walk(h, x, y, h), walk(h, y, x, h)};
                } else {
                    int a = walk(h, x, h);
                    int b = walk(g, y, g);
                    sums = new int[] {a < 0 || b < 0 ? -1 : a + b};
                }
                for (int sum : sums) {
                    if (sum >= 0 && (best == null || sum < best[0])) {
                        best = new int[] {sum, l, r};
                    }
                }
            }
        }
        return best == null ? NONE : best[what];
    }

    int parted(int a, int b, int what) {
        if (!town(a) || !town(b) || a == b) {
            return UNKNOWN;
        }
        if (!in(what, 0, 1)) {
            return OUTSIDE;
        }
        List<int[]> roads = new ArrayList<>();
        for (int s = 0; s < w.n; s++) {
            for (int t = s + 1; t < w.n; t++) {
                if (w.miles[s][t] > 0) {
                    roads.add(new int[] {s, t});
                }
            }
        }
        int best = -1;
        for (int closed = 0; closed < 1 << roads.size(); closed++) {
            boolean fewer = best < 0 || Integer.bitCount(closed) < Integer.bitCount(best);
            if (fewer && apart(roads, closed, a, b)) {
                best = closed;
            }
        }
        return what == 0 ? Integer.bitCount(best) : best;
    }

    boolean apart(List<int[]> roads, int closed, int a, int b) {
        int reached = 1 << a;
        for (int turn = 0; turn < 6; turn++) {
            for (int i = 0; i < roads.size(); i++) {
                if ((closed >> i & 1) == 0) {
                    int s = roads.get(i)[0];
                    int t = roads.get(i)[1];
                    if ((reached >> s & 1) == 1 || (reached >> t & 1) == 1) {
                        reached |= 1 << s | 1 << t;
                    }
                }
            }
        }
        return (reached >> b & 1) == 0;
    }

    int pairs(int lefts, int rights, int span, int what) {
        if (!town(lefts) || !town(rights) || lefts == rights) {
            return UNKNOWN;
        }
        if (!in(span, 0, 4) || !in(what, 0, 1)) {
            return OUTSIDE;
        }
        List<Integer> l = shoes(lefts);
        List<Integer> r = shoes(rights);
        int[] mate = new int[r.size()];
        Arrays.fill(mate, -1);
        int made = 0;
        for (int i = 0; i < l.size(); i++) {
            made += mated(i, l, r, span, mate, new boolean[r.size()]) ? 1 : 0;
        }
        return what == 0 ? made : l.size() + r.size() - 2 * made;
    }

    List<Integer> shoes(int t) {
        List<Integer> all = new ArrayList<>();
        for (int s = 0; s < 5; s++) {
            for (int i = 0; i < w.stock[t][s]; i++) {
                all.add(s);
            }
        }
        return all;
    }

    boolean mated(int i, List<Integer> l, List<Integer> r, int span, int[] mate, boolean[] tried) {
        for (int j = 0; j < r.size(); j++) {
            if (!tried[j] && Math.abs(l.get(i) - r.get(j)) <= span) {
                tried[j] = true;
                if (mate[j] < 0 || mated(mate[j], l, r, span, mate, tried)) {
                    mate[j] = i;
                    return true;
                }
            }
        }
        return false;
    }

    int buyers(int both) {
        int c = 0;
        for (One o : w.people) {
            c += o.there && both <= o.purse ? 1 : 0;
        }
        return c;
    }

    int rests(int i) {
        List<Integer> all = new ArrayList<>();
        for (int l = 0; l <= 9; l++) {
            for (int r = 0; r <= 9; r++) {
                boolean more = false;
                for (int q = 0; q <= 9; q++) {
                    more |= q * buyers(q + r) > l * buyers(l + r);
                    more |= q * buyers(l + q) > r * buyers(l + r);
                }
                if (!more) {
                    all.add(10 * l + r);
                }
            }
        }
        if (i == -1) {
            return all.size();
        }
        return in(i, 0, all.size() - 1) ? all.get(i) : NONE;
    }

    int owner(int what) {
        if (!in(what, 0, 1)) {
            return OUTSIDE;
        }
        int best = 0;
        for (int q = 99; q >= 0; q--) {
            if (q * buyers(q) >= best * buyers(best)) {
                best = q;
            }
        }
        return what == 0 ? best : best * buyers(best);
    }

    int track(int left, int right, int limps) {
        if (!in(left, 0, 6) || !in(right, 0, 6) || !in(limps, 0, 2)) {
            return OUTSIDE;
        }
        int bits = 0;
        for (int p = 0; p < 4; p++) {
            One o = w.people[p];
            int l = o.wear[0] < 0 ? 5 : o.size[0];
            int r = o.wear[1] < 0 ? 5 : o.size[1];
            boolean could = o.there && (left == 6 || left == l) && (right == 6 || right == r);
            could = could && (limps == 2 || (limps == 1) == w.limps(o));
            bits += could ? 1 << p : 0;
        }
        return bits;
    }

    int seen(int p, int t) {
        if (!in(p, 0, 3) || !town(t)) {
            return UNKNOWN;
        }
        if (w.sights.size() == 6) {
            return FULL;
        }
        w.sights.add(new int[] {p, t});
        return w.sights.size();
    }

    int forget() {
        int was = w.sights.size();
        w.sights.clear();
        return was;
    }

    int filled(int i) {
        if (fault() != NONE) {
            return NO;
        }
        List<String> ways = new ArrayList<>();
        fill(pad.toString(), "", ways);
        if (i == -1) {
            return ways.size();
        }
        boolean asked = ways.size() > 0 && in(i, 0, ways.get(0).length() - 1);
        return asked ? ways.get(0).charAt(i) - 'A' : NONE;
    }

    void fill(String text, String letters, List<String> ways) {
        int mark = text.indexOf('?');
        if (mark >= 0) {
            for (char c = 'A'; c <= 'D'; c++) {
                String written = text.substring(0, mark) + c + text.substring(mark + 1);
                fill(written, letters + c, ways);
            }
            return;
        }
        World v = w.copy();
        boolean can = play(v, text) == null;
        for (int[] sight : v.sights) {
            can &= v.people[sight[0]].there && v.people[sight[0]].at == sight[1];
        }
        if (can) {
            ways.add(letters);
        }
    }

    int spy(int what) {
        if (!in(what, 0, 1)) {
            return OUTSIDE;
        }
        int[] count = new int[100];
        int best = 0;
        for (One o : w.people) {
            if (o.there) {
                count[10 * o.size[0] + o.size[1]]++;
            }
        }
        for (int i = 99; i >= 0; i--) {
            best = count[i] > 0 && count[i] >= count[best] ? i : best;
        }
        return what == 0 ? best : count[best];
    }

    long shut(int p, int t, int part) {
        if (!there(p)) {
            return LOST + UNKNOWN;
        }
        if (!in(t, 0, 10) || !in(part, 0, 1)) {
            return LOST + OUTSIDE;
        }
        long upper = chance(p, t, 0, 0);
        long lower = 1000000;
        for (int d = 2; d <= 5; d += 3) {
            while (upper % d == 0 && lower % d == 0) {
                upper /= d;
                lower /= d;
            }
        }
        return part == 0 ? upper : lower;
    }

    /** In millionths: all six towns draw, also those without a shop, to whom it means nothing. */
    long chance(int p, int t, int town, int shut) {
        if (town == 6) {
            return shodBy(p, shut) == null ? 0 : 1;
        }
        if (w.side[town] == 0) {
            return 10 * chance(p, t, town + 1, shut);
        }
        return t * chance(p, t, town + 1, shut | 1 << town)
                + (10 - t) * chance(p, t, town + 1, shut);
    }

    int year(int seed, int m, int what) {
        if (!in(seed, 0, 9999) || !in(m, 1, 99) || !in(what, 0, 2)) {
            return OUTSIDE;
        }
        World v = w.copy();
        long x = seed;
        int miles = 0;
        int bought = 0;
        for (int i = 0; i < m; i++) {
            x = (75 * x + 74) % 65537;
            char who = (char) ('A' + x % 4);
            char to = (char) ('a' + (x / 4) % v.n);
            if (v.why(who, to) == 0) {
                miles += v.miles[v.people[who - 'A'].at][to - 'a'];
                v.step(who, to);
            }
            if (v.why(who, '+') == 0) {
                bought++;
                v.step(who, '+');
            }
        }
        int limping = 0;
        for (One o : v.people) {
            limping += o.there && v.limps(o) ? 1 : 0;
        }
        return new int[] {miles, bought, limping}[what];
    }

    int image(int n) {
        if (!in(n, 0, 1)) {
            return OUTSIDE;
        }
        images[n] = w.copy();
        return 1;
    }

    int restore(int n) {
        if (!in(n, 0, 1)) {
            return OUTSIDE;
        }
        if (images[n] == null) {
            return STATE;
        }
        w = images[n].copy();
        return 1;
    }

    int told(int what) {
        if (in(what, 0, 5)) {
            int bits = 0;
            for (int p = 0; p < 4; p++) {
                bits += there(p) ? 1 << p : 0;
            }
            return new int[] {pad.length(), w.n, bits, w.toll, w.k, w.sights.size()}[what];
        }
        for (int t = 0; t < w.n; t++) {
            if (what == 10 + t) {
                return w.side[t];
            }
            if (what == 20 + t) {
                return w.price[t];
            }
            for (int s = 0; s < 5; s++) {
                if (what == 100 * (1 + t) + s) {
                    return w.stock[t][s];
                }
            }
            for (int o = 0; o < w.n; o++) {
                if (o != t && what == 100 * (1 + t) + 10 + o) {
                    return w.miles[t][o];
                }
                if (o != t && what == 100 * (1 + t) + 20 + o) {
                    return w.rule[t][o];
                }
            }
        }
        return OUTSIDE;
    }
}
