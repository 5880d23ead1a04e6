import java.util.ArrayDeque;
import java.util.ArrayList;
import java.util.Arrays;
import java.util.List;
import java.util.TreeSet;
import java.util.function.IntPredicate;
import java.util.regex.Matcher;
import java.util.regex.Pattern;

/** The document once more, by trying out all there is: slow, plain, and nothing shared with TentPegs. */
final class Oracle {
    static final class Peg implements Cloneable {
        int kind = 0, depth = 5, ground = 4;
        boolean stands = true;

        Peg copy() {
            Peg p = new Peg();
            p.kind = kind;
            p.depth = depth;
            p.ground = ground;
            p.stands = stands;
            return p;
        }
    }

    static final class World {
        List<Peg> pegs = new ArrayList<>();
        int wet = 0, turn = 0;
        boolean[] walls = new boolean[8];
        int[] odds = {1, 1, 1, 1, 1, 1, 1, 1};
        ArrayDeque<boolean[]> past = new ArrayDeque<>();

        World(int n) {
            for (int k = 0; k < n; k++) {
                pegs.add(new Peg());
            }
        }

        World copy() {
            World w = new World(0);
            for (Peg p : pegs) {
                w.pegs.add(p.copy());
            }
            w.wet = wet;
            w.turn = turn;
            w.walls = walls.clone();
            w.odds = odds.clone();
            for (boolean[] b : past) {
                w.past.addLast(b.clone());
            }
            return w;
        }

        int n() {
            return pegs.size();
        }

        Peg at(int k) {
            return pegs.get(Math.floorMod(k, n()));
        }

        int standing() {
            return (int) pegs.stream().filter(p -> p.stands).count();
        }

        int way(int k) {
            return (k * 8 / n() + turn) % 8;
        }

        int holds(int k) {
            Peg p = at(k);
            int plain = p.depth * p.ground;
            int doubled = plain + (plain >> 1);
            int loosened = plain - 2 * wet < 0 ? 0 : plain - 2 * wet;
            int[] by = {plain, doubled, plain + 10, loosened, loosened / 2 + loosened % 2,
                doubled + (at(k - 1).stands ? 3 : 0) + (at(k + 1).stands ? 3 : 0)};
            return by[p.kind];
        }

        int strength(int way, int s) {
            if (walls[way]) {
                return s / 2;
            }
            return walls[(way + 1) % 8] || walls[(way + 7) % 8] ? s + s / 4 : s;
        }

        int pull(int k, int way, int s) {
            int[] share = {4, 3, 2, 1, 0, 1, 2, 3};
            return at(k).stands ? strength(way, s) * share[Math.floorMod(way(k) - way, 8)] / 4 : 0;
        }

        List<Integer> blow(int way, int s) {
            int[] pulls = new int[n()];
            for (int k = 0; k < n(); k++) {
                pulls[k] = pull(k, way, s);
            }
            List<Integer> gone = new ArrayList<>();
            while (true) {
                int worst = -1;
                for (int k = n() - 1; k >= 0; k--) {
                    if (at(k).stands && pulls[k] > holds(k)
                        && (worst < 0 || pulls[k] - holds(k) >= pulls[worst] - holds(worst))) {
                        worst = k;
                    }
                }
                if (worst < 0) {
                    return gone;
                }
                gone.add(worst);
                at(worst).stands = false;
                if (standing() > 0) {
                    int behind = worst;
                    int ahead = worst;
                    do {
                        behind = (behind + 1) % n();
                    } while (!at(behind).stands);
                    do {
                        ahead = (ahead + n() - 1) % n();
                    } while (!at(ahead).stands);
                    pulls[behind] += pulls[worst] - pulls[worst] / 2;
                    pulls[ahead] += pulls[worst] / 2;
                }
            }
        }

        boolean harmless(int way, int s) {
            return copy().blow(way, s).isEmpty();
        }

        int bears(int way) {
            int s = 0;
            while (s < 60 && harmless(way, s + 1)) {
                s++;
            }
            return s;
        }

        int least() {
            int least = 0;
            for (int way = 1; way < 8; way++) {
                least = bears(way) < bears(least) ? way : least;
            }
            return least;
        }

        int oddsOf(IntPredicate which) {
            int sum = 0;
            for (int way = 0; way < 8; way++) {
                sum += which.test(way) ? odds[way] : 0;
            }
            return sum;
        }

        boolean[] stands() {
            boolean[] all = new boolean[n()];
            for (int k = 0; k < n(); k++) {
                all[k] = at(k).stands;
            }
            return all;
        }

        void remember() {
            past.addLast(stands());
            if (past.size() > 10) {
                past.removeFirst();
            }
        }
    }

    World w = new World(8);
    final World[] images = new World[2];
    final StringBuilder text = new StringBuilder();
    final int[] status = new int[3];
    int above = 0, below = 1;

    private int refuse(int which, int answer) {
        status[which]++;
        return answer;
    }

    private static boolean in(int x, int a, int b) {
        return x >= a && x <= b;
    }

    private static boolean gustTold(int way, int s) {
        return in(way, 0, 7) && in(s, 0, 60);
    }

    private boolean pegTold(int k) {
        return in(k, 0, w.n() - 1);
    }

    int tent(int n) {
        if (!in(n, 2, 8)) {
            return refuse(0, -2);
        }
        int was = w.n();
        w = new World(n);
        return was;
    }

    int peg(int k, int kind, int depth, int ground) {
        if (!pegTold(k) || !in(kind, 0, 5) || !in(depth, 0, 9) || !in(ground, 0, 9)) {
            return refuse(0, -2);
        }
        Peg p = w.at(k);
        int was = p.kind;
        p.kind = kind;
        p.depth = depth;
        p.ground = ground;
        return was;
    }

    int wet(int n) {
        if (!in(n, 0, 9)) {
            return refuse(0, -2);
        }
        int was = w.wet;
        w.wet = n;
        return was;
    }

    int wall(int way, boolean is) {
        if (!in(way, 0, 7)) {
            return refuse(0, -2);
        }
        if (w.walls[way] == is) {
            return refuse(1, -3);
        }
        w.walls[way] = is;
        return 1;
    }

    int odds(int way, int n) {
        if (!in(way, 0, 7) || !in(n, 0, 20)) {
            return refuse(0, -2);
        }
        int was = w.odds[way];
        w.odds[way] = n;
        return was;
    }

    int type(int c) {
        if (!in(c, 0, 127)) {
            return refuse(0, -2);
        }
        if (text.length() == 150) {
            return refuse(2, -4);
        }
        text.append((char) c);
        return text.length();
    }

    int clear() {
        int had = text.length();
        text.setLength(0);
        return had;
    }

    private static final Pattern TOKEN = Pattern.compile("[a-z]+|[0-9]+|[^ ]", Pattern.DOTALL);
    private static final List<String> WORDS = List.of("tent", "peg", "wet", "wall", "odds", "gone");
    private static final int[] ASKS = {1, 4, 1, 1, 2, 1};

    int read() {
        List<List<String>> items = new ArrayList<>();
        List<String> item = new ArrayList<>();
        Matcher m = TOKEN.matcher(text);
        while (m.find()) {
            String t = m.group();
            int size = item.size();
            boolean fits;
            if (size == 0) {
                fits = items.isEmpty() ? t.equals("tent") : WORDS.indexOf(t) > 0;
            } else if (size <= ASKS[WORDS.indexOf(item.get(0))]) {
                fits = t.matches("[0-9]{1,2}");
            } else {
                fits = t.equals(";");
            }
            if (!fits) {
                return -10 - m.start();
            }
            item.add(t);
            if (t.equals(";")) {
                items.add(item);
                item = new ArrayList<>();
            }
        }
        if (items.isEmpty() || !item.isEmpty()) {
            return -10 - text.length();
        }
        return tellAll(items);
    }

    private int tellAll(List<List<String>> items) {
        Oracle fresh = new Oracle();
        for (int i = 0; i < items.size(); i++) {
            int[] a = items.get(i).stream().filter(t -> t.matches("[0-9]+")).mapToInt(Integer::parseInt).toArray();
            int answer;
            switch (items.get(i).get(0)) {
                case "tent": answer = fresh.tent(a[0]); break;
                case "peg": answer = fresh.peg(a[0], a[1], a[2], a[3]); break;
                case "wet": answer = fresh.wet(a[0]); break;
                case "wall": answer = fresh.wall(a[0], true); break;
                case "odds": answer = fresh.odds(a[0], a[1]); break;
                default: answer = fresh.stand(a[0], false);
            }
            if (answer < 0) {
                return -1000 - i;
            }
        }
        w = fresh.w;
        w.past.clear();
        return items.size();
    }

    int gust(int way, int s) {
        if (!gustTold(way, s)) {
            return refuse(0, -2);
        }
        if (w.standing() < 2) {
            return refuse(1, -3);
        }
        w.remember();
        return w.blow(way, s).size();
    }

    int stand(int k, boolean is) {
        if (!pegTold(k)) {
            return refuse(0, -2);
        }
        if (w.at(k).stands == is) {
            return refuse(1, -3);
        }
        w.remember();
        w.at(k).stands = is;
        return 1;
    }

    int undo() {
        if (w.past.isEmpty()) {
            return refuse(1, -3);
        }
        boolean[] stood = w.past.removeLast();
        for (int k = 0; k < w.n(); k++) {
            w.at(k).stands = stood[k];
        }
        return 1;
    }

    int of(int k, int what) {
        if (!pegTold(k) || !in(what, 0, 5)) {
            return refuse(0, -2);
        }
        Peg p = w.at(k);
        return new int[] {p.kind, p.depth, p.ground, w.holds(k), p.stands ? 1 : 0, w.way(k)}[what];
    }

    int pull(int k, int way, int s) {
        return pegTold(k) && gustTold(way, s) ? w.pull(k, way, s) : refuse(0, -2);
    }

    int first(int way, int s, int i) {
        if (!gustTold(way, s) || i < -1) {
            return refuse(0, -10);
        }
        List<Integer> gone = w.copy().blow(way, s);
        return i < 0 ? gone.size() : i < gone.size() ? gone.get(i) : -5;
    }

    int lost(int k, int way, int s) {
        if (!pegTold(k) || !gustTold(way, s)) {
            return refuse(0, -2);
        }
        World v = w.copy();
        v.at(k).stands = false;
        v.blow(way, s);
        return v.standing() == 0 ? 1 : 0;
    }

    int bears(int way) {
        if (!in(way, -1, 7)) {
            return refuse(0, -10);
        }
        return way < 0 ? w.least() : w.bears(way);
    }

    int twofold(int m, int i) {
        if (!in(m, 1, 2) || i < -1) {
            return refuse(0, -10);
        }
        List<int[]> sets = new ArrayList<>();
        for (int a = 0; a < w.n(); a++) {
            if (m == 1 && w.at(a).stands) {
                sets.add(new int[] {a});
            }
            for (int b = a + 1; m == 2 && b < w.n(); b++) {
                if (w.at(a).stands && w.at(b).stands) {
                    sets.add(new int[] {a, b});
                }
            }
        }
        if (sets.isEmpty()) {
            return -1;
        }
        int most = -1;
        int[] best = null;
        for (int[] set : sets) {
            World v = w.copy();
            for (int k : set) {
                v.at(k).kind = 1;
            }
            int borne = v.bears(v.least());
            if (borne > most) {
                most = borne;
                best = set;
            }
        }
        return i < 0 ? most : i < m ? best[i] : -5;
    }

    int strokes(int way, int s, int k) {
        if (!gustTold(way, s) || k != -1 && !pegTold(k)) {
            return refuse(0, -10);
        }
        World v = w.copy();
        int sum = 0;
        for (int j = 0; j < v.n(); j++) {
            while (v.at(j).stands && v.holds(j) < v.pull(j, way, s)) {
                if (v.at(j).depth == 9) {
                    return -1;
                }
                v.at(j).depth++;
                sum++;
            }
        }
        return k < 0 ? sum : v.at(k).depth;
    }

    private void fraction(int a, int b) {
        int x = Math.abs(a);
        int y = b;
        while (y != 0) {
            int t = x % y;
            x = y;
            y = t;
        }
        above = a / x;
        below = b / x;
    }

    int chance(int s) {
        if (!in(s, 0, 60)) {
            return refuse(0, -2);
        }
        int all = w.oddsOf(way -> true);
        if (all == 0) {
            return refuse(1, -3);
        }
        fraction(w.oddsOf(way -> w.harmless(way, s)), all);
        return 1;
    }

    int turn(int s) {
        if (!in(s, 0, 60)) {
            return refuse(0, -2);
        }
        int all = w.oddsOf(way -> true);
        if (all == 0) {
            return refuse(1, -3);
        }
        int[] by = new int[8];
        for (int r = 0; r < 8; r++) {
            World v = w.copy();
            v.turn = r;
            by[r] = v.oddsOf(way -> v.harmless(way, s));
        }
        int most = Arrays.stream(by).max().getAsInt();
        int r = 0;
        while (by[r] != most) {
            r++;
        }
        fraction(most, all);
        return r;
    }

    int worth(int way, int s) {
        if (!gustTold(way, s)) {
            return refuse(0, -2);
        }
        int all = w.oddsOf(v -> true);
        if (all == 0) {
            return refuse(1, -3);
        }
        World walled = w.copy();
        walled.walls[way] = true;
        fraction(walled.oddsOf(v -> walled.harmless(v, s)) - w.oddsOf(v -> w.harmless(v, s)), all);
        return 1;
    }

    private int tried;
    private int[] firstOrder;

    private void drive(World v, List<Integer> order, int c, int way, int s) {
        int size = order.size();
        if (size > 0 && (size % c == 0 || size == v.n()) && (size == 1 || !v.harmless(way, s))) {
            return;
        }
        if (size == v.n()) {
            if (tried == 0) {
                firstOrder = order.stream().mapToInt(k -> k).toArray();
            }
            tried++;
            return;
        }
        for (int k = 0; k < v.n(); k++) {
            if (!v.at(k).stands) {
                v.at(k).stands = true;
                order.add(k);
                drive(v, order, c, way, s);
                order.remove(order.size() - 1);
                v.at(k).stands = false;
            }
        }
    }

    int setUp(int c, int way, int s, int i) {
        if (!in(c, 1, 4) || !gustTold(way, s) || i < -1) {
            return refuse(0, -10);
        }
        World v = w.copy();
        v.pegs.forEach(p -> p.stands = false);
        tried = 0;
        drive(v, new ArrayList<>(), c, way, s);
        if (i < 0) {
            return tried;
        }
        return tried == 0 ? -1 : i < v.n() ? firstOrder[i] : -5;
    }

    int morning(int found, int what) {
        boolean told = found >= 0 && found < 1 << w.n() && in(what, 0, 1);
        for (int k = 0; told && k < w.n(); k++) {
            told = (found >> k) % 2 == 0 || w.at(k).stands;
        }
        if (!told) {
            return refuse(0, -10);
        }
        TreeSet<Integer> those = new TreeSet<>();
        for (int way = 0; way < 8; way++) {
            for (int s = 0; s <= 60; s++) {
                int gone = w.copy().blow(way, s).stream().mapToInt(k -> 1 << k).sum();
                if (gone == found) {
                    those.add(100 * way + s);
                }
            }
        }
        return what == 0 ? those.size() : those.isEmpty() ? -1 : those.first();
    }

    int lent(int way, int s, int what) {
        if (!gustTold(way, s) || !in(what, 0, 2)) {
            return refuse(0, -10);
        }
        int many = 0;
        int few = 0;
        int inches = 0;
        List<Integer> needs = new ArrayList<>();
        for (int k = 0; k < w.n(); k++) {
            if (!w.at(k).stands) {
                continue;
            }
            int need = 0;
            World v = w.copy();
            for (v.at(k).depth = 0; need < 10 && v.holds(k) < v.pull(k, way, s); v.at(k).depth++) {
                need++;
            }
            needs.add(need);
            inches += w.at(k).depth;
            many += Math.max(0, w.at(k).depth - need);
            few += Math.max(0, need - w.at(k).depth);
        }
        return new int[] {many, few, most(needs, inches)}[what];
    }

    /** Of all sets of them the largest whose needs, all of 9 at most, the inches meet. */
    private static int most(List<Integer> needs, int inches) {
        int most = 0;
        for (int set = 0; set < 1 << needs.size(); set++) {
            int sum = 0;
            for (int k = 0; k < needs.size(); k++) {
                sum += set >> k & 1;
                sum += (set >> k & 1) * ((needs.get(k) > 9 ? 1000 : needs.get(k)) - 1);
            }
            most = sum <= inches ? Math.max(most, Integer.bitCount(set)) : most;
        }
        return most;
    }

    int pence(int way, int s, int p) {
        if (!gustTold(way, s) || !in(p, 1, 20)) {
            return refuse(0, -2);
        }
        int b = 1;
        for (int k = 0; k < w.n(); k++) {
            while (b < w.pull(k, way, s)) {
                b++;
            }
        }
        int sum = 0;
        for (int k = 0; k < w.n(); k++) {
            sum += w.at(k).stands ? b * p : 0;
        }
        return sum;
    }

    private static List<int[]> gusts(int m, int s, int seed) {
        List<int[]> gusts = new ArrayList<>();
        java.math.BigInteger x = java.math.BigInteger.valueOf(seed);
        int[] pair = new int[2];
        for (int i = 0; i < 2 * m; i++) {
            x = x.multiply(java.math.BigInteger.valueOf(1103515245)).add(java.math.BigInteger.valueOf(12345))
                .mod(java.math.BigInteger.TWO.pow(31));
            pair[i % 2] = x.shiftRight(16).intValue() % (i % 2 == 0 ? 8 : s + 1);
            if (i % 2 == 1) {
                gusts.add(pair.clone());
            }
        }
        return gusts;
    }

    private static boolean nightTold(int m, int s, int seed) {
        return in(m, 0, 60) && in(s, 0, 60) && in(seed, 0, 999999);
    }

    int night(int m, int s, int seed, int what) {
        if (!nightTold(m, s, seed) || !in(what, 0, 1)) {
            return refuse(0, -10);
        }
        World v = w.copy();
        List<int[]> gusts = gusts(m, s, seed);
        int lost = v.standing() < 2 ? 0 : -1;
        for (int i = 0; i < m; i++) {
            v.blow(gusts.get(i)[0], gusts.get(i)[1]);
            lost = lost < 0 && v.standing() < 2 ? i + 1 : lost;
        }
        return what == 0 ? lost : v.standing();
    }

    int wake(int m, int s, int seed) {
        if (!nightTold(m, s, seed)) {
            return refuse(0, -10);
        }
        List<int[]> gusts = gusts(m, s, seed);
        int best = -1;
        int most = -1;
        for (int up = -1; up <= m; up++) {
            World v = w.copy();
            for (int i = 0; i <= m; i++) {
                if (i == up) {
                    v.pegs.forEach(p -> p.stands = true);
                }
                if (i < m) {
                    v.blow(gusts.get(i)[0], gusts.get(i)[1]);
                }
            }
            if (v.standing() > most || v.standing() == most && best >= 0) {
                most = v.standing();
                best = up;
            }
        }
        return best;
    }

    long part(int what) {
        return what == 0 ? above : what == 1 ? below : refuse(0, -100000);
    }

    int image(int i) {
        if (!in(i, 0, 1)) {
            return refuse(0, -2);
        }
        images[i] = w.copy();
        return 1;
    }

    int from(int i) {
        if (!in(i, 0, 1)) {
            return refuse(0, -2);
        }
        if (images[i] == null) {
            return refuse(1, -3);
        }
        w = images[i].copy();
        return 1;
    }

    int status(int what) {
        return in(what, 0, 2) ? status[what] : refuse(0, -1);
    }

    int count(int what) {
        if (!in(what, 0, 5)) {
            return refuse(0, -2);
        }
        int walls = 0;
        for (int way = 0; way < 8; way++) {
            walls += w.walls[way] ? 1 << way : 0;
        }
        return new int[] {w.n(), w.standing(), w.wet, walls, w.past.size(), text.length()}[what];
    }

    long digest() {
        List<Integer> all = new ArrayList<>();
        for (int what = 0; what <= 5; what++) {
            all.add(count(what));
        }
        for (Peg p : w.pegs) {
            all.addAll(List.of(p.kind, p.depth, p.ground, p.stands ? 1 : 0));
        }
        for (int o : w.odds) {
            all.add(o);
        }
        all.add(above);
        all.add(below);
        long h = 883;
        for (int v : all) {
            h = 31 * h + v;
        }
        return h;
    }
}
