import java.util.Random;

/** All promises: runs of calls by fixed seeds, each answer and digest held against the Oracle's. */
public final class OracleTest {
    private static final int RUNS = 400, CALLS = 200;
    private static final String[] BITS = {"tent", "peg", "wet", "wall", "odds", "gone", ";", " ", "0", "1", "2", "3",
        "7", "8", "9", "12", "123", "x", "Z", "~"};

    private final Random random;
    private final TentPegs x = new TentPegs();
    private final Oracle y = new Oracle();
    private final int run;

    private OracleTest(int run) {
        this.run = run;
        this.random = new Random(run);
    }

    public static void main(String[] args) {
        for (int run = 0; run < RUNS; run++) {
            new OracleTest(run).go();
        }
        Due.end("OracleTest");
    }

    private void go() {
        same("digest", x.digest(), y.digest());
        for (int i = 0; i < CALLS; i++) {
            if (random.nextInt(4) == 0) {
                ask();
            } else {
                change();
            }
            same("digest", x.digest(), y.digest());
        }
        for (int what = 0; what < 3; what++) {
            same("status", x.status(what), y.status(what));
        }
    }

    private void same(String call, long got, long want) {
        Due.due("run " + run + ": " + call, got, want);
    }

    /** Mostly from 0 to most, now and then just off it or far off. */
    private int upTo(int most) {
        int[] off = {-1, -2, most + 1, Integer.MIN_VALUE, Integer.MAX_VALUE};
        return random.nextInt(40) == 0 ? off[random.nextInt(off.length)] : random.nextInt(most + 1);
    }

    private int peg() {
        return random.nextInt(40) == 0 ? upTo(9) : random.nextInt(y.w.n());
    }

    private int strength() {
        return random.nextInt(3) == 0 ? upTo(60) : upTo(35);
    }

    private int noneOr(int most) {
        return random.nextInt(3) == 0 ? -1 : upTo(most);
    }

    private int ground() {
        return random.nextInt(2) == 0 ? 5 + random.nextInt(5) : upTo(9);
    }

    private void change() {
        int a = upTo(7);
        int b = strength();
        int k = peg();
        switch (random.nextInt(16)) {
            case 0: a = random.nextInt(4) == 0 ? upTo(9) : random.nextInt(20) == 0 ? 3 : 7; a = a < 9 ? a + 1 : a;
                same("tent " + a, x.tent(a), y.tent(a)); break;
            case 1: case 2: case 3: case 4: {
                int kind = upTo(5);
                int depth = ground();
                int ground = ground();
                same("peg " + k + " " + kind + " " + depth + " " + ground, x.peg(k, kind, depth, ground), y.peg(k, kind, depth, ground));
                break;
            }
            case 5: a = upTo(9); same("wet " + a, x.wet(a), y.wet(a)); break;
            case 6: boolean is = random.nextInt(3) > 0; same("wall " + a, x.wall(a, is), y.wall(a, is)); break;
            case 7: b = random.nextInt(2) * upTo(20); same("odds " + a, x.odds(a, b), y.odds(a, b)); break;
            case 8: typeText(); break;
            case 9: same("read", x.read(), y.read()); break;
            case 10: same("gust " + a + " " + b, x.gust(a, b), y.gust(a, b)); break;
            case 11: case 12: boolean up = random.nextInt(3) > 0; same("stand " + k, x.stand(k, up), y.stand(k, up)); break;
            case 13: same("undo", x.undo(), y.undo()); break;
            case 14: a = upTo(1); same("image " + a, x.image(a), y.image(a)); break;
            default: a = upTo(1); same("from " + a, x.from(a), y.from(a));
        }
    }

    private void typeText() {
        if (random.nextInt(3) > 0) {
            same("clear", x.clear(), y.clear());
        }
        StringBuilder text = new StringBuilder(random.nextInt(8) == 0 ? "" : "tent " + (2 + random.nextInt(8)) + ";");
        int items = random.nextInt(9);
        for (int i = 0; i < items; i++) {
            String[] likely = {"peg " + digit(8) + " " + digit(6) + " " + digit(10) + " " + digit(10), "wet " + digit(10),
                "wall " + digit(8), "odds " + digit(8) + " " + digit(21), "gone " + digit(8)};
            String item = likely[random.nextInt(likely.length)];
            text.append(random.nextInt(25) == 0 ? BITS[random.nextInt(BITS.length)] : item);
            text.append(random.nextInt(25) == 0 ? BITS[random.nextInt(BITS.length)] : ";");
        }
        for (char c : text.toString().toCharArray()) {
            same("type", x.type(c), y.type(c));
        }
        int c = upTo(127);
        if (random.nextInt(10) == 0) {
            same("type " + c, x.type(c), y.type(c));
        }
    }

    private String digit(int below) {
        return "" + random.nextInt(random.nextInt(25) == 0 ? 100 : below);
    }

    private void ask() {
        int way = upTo(7);
        int s = strength();
        int k = peg();
        int i = noneOr(8);
        int what = upTo(2);
        String told = " " + k + " " + way + " " + s + " " + i + " " + what;
        switch (random.nextInt(20)) {
            case 0: what = upTo(5); same("of " + k + " " + what, x.of(k, what), y.of(k, what)); break;
            case 1: same("pull" + told, x.pull(k, way, s), y.pull(k, way, s)); break;
            case 2: same("first" + told, x.first(way, s, i), y.first(way, s, i)); break;
            case 3: same("lost" + told, x.lost(k, way, s), y.lost(k, way, s)); break;
            case 4: same("bears" + told, x.bears(way), y.bears(way)); break;
            case 5: same("bears NONE", x.bears(-1), y.bears(-1)); break;
            case 6: same("twofold" + told, x.twofold(what, i), y.twofold(what, i)); break;
            case 7: i = random.nextInt(2) == 0 ? -1 : k; same("strokes" + told, x.strokes(way, s, i), y.strokes(way, s, i)); break;
            case 8: same("chance" + told, x.chance(s), y.chance(s)); break;
            case 9: same("turn" + told, x.turn(s), y.turn(s)); break;
            case 10: same("worth" + told, x.worth(way, s), y.worth(way, s)); break;
            case 11: {
                int c = upTo(4);
                if (y.w.n() > 6 && random.nextInt(8) > 0) {
                    s = 35 + random.nextInt(20);
                }
                same("setUp " + c + told, x.setUp(c, way, s, i), y.setUp(c, way, s, i));
                break;
            }
            case 12: case 13: {
                int found = random.nextInt(3) == 0 ? upTo(255) : y.w.copy().blow(random.nextInt(8), random.nextInt(61)).stream().mapToInt(j -> 1 << j).sum();
                same("morning " + found + told, x.morning(found, what), y.morning(found, what));
                break;
            }
            case 14: same("lent" + told, x.lent(way, s, what), y.lent(way, s, what)); break;
            case 15: int p = upTo(20); same("pence " + p + told, x.pence(way, s, p), y.pence(way, s, p)); break;
            case 16: case 17: {
                int m = upTo(60);
                int seed = upTo(999999);
                same("night " + m + told + " " + seed, x.night(m, s, seed, what), y.night(m, s, seed, what));
                same("wake " + m + told + " " + seed, x.wake(m, s, seed), y.wake(m, s, seed));
                break;
            }
            case 18: what = upTo(1); same("part", x.part(what), y.part(what)); break;
            default:
                what = upTo(5);
                same("count " + what, x.count(what), y.count(what));
                what = upTo(2);
                same("status " + what, x.status(what), y.status(what));
        }
    }
}
