/** Promises 27 and 28: a test for each sentence that names a bound. */
public final class NightEdgesTest extends Edges {
    public static void main(String[] args) {
        nightRefused();
        nightLost();
        nightStand();
        nightGusts();
        wakeRefused();
        wake();
        Due.end("NightEdgesTest");
    }

    private static void nightRefused() {
        range("27: m", 0, 60, ASKED, (x, m) -> x.night(m, 1, 1, 0));
        range("27: s", 0, 60, ASKED, (x, s) -> x.night(1, s, 1, 0));
        range("27: SEED", 0, 999999, ASKED, (x, seed) -> x.night(1, 1, seed, 0));
        range("27: what", 0, 1, ASKED, (x, what) -> x.night(1, 1, 1, what));
        asks("27: till it is LOST, nothing changes", 11, x -> { }, x -> x.night(60, 30, 7, 0));
        asks("27: how many STAND, nothing changes", 0, x -> { }, x -> x.night(60, 30, 7, 1));
        asks("27: of much told nothing changes", 4, Edges::muchTold, x -> x.night(4, 15, 7, 1));
    }

    private static void nightLost() {
        answers("27: 0: LOST now, none STANDS", 0, Edges::drawAll, x -> x.night(60, 60, 7, 0));
        answers("27: 0: LOST now, 1 STANDS", 0, Edges::strongAlone, x -> x.night(60, 0, 7, 0));
        answers("27: 0: LOST now, no GUSTS", 0, Edges::strongAlone, x -> x.night(0, 60, 7, 0));
        answers("27: no GUSTS: NONE", NONE, x -> x.night(0, 60, 0, 0));
        answers("27: no STRENGTH: NONE", NONE, x -> x.night(60, 0, 7, 0));
        answers("27: LOST behind the first one", 1, x -> x.night(1, 60, 0, 0));
        answers("27: LOST behind the last one", 11, x -> x.night(11, 30, 7, 0));
        answers("27: one less: NONE", NONE, x -> x.night(10, 30, 7, 0));
        answers("27: 60 GUSTS, LOST ahead of the last", 11, x -> x.night(60, 30, 7, 0));
        answers("27: fewer than 2: 1 STANDS", 1, x -> weakOf(x, 2), x -> x.night(1, 60, 0, 0));
        answers("27: fewer than 2: 2 STAND: NONE", NONE, x -> weakOf(x, 3), x -> x.night(1, 60, 0, 0));
    }

    /** Peg 0 by north holds 20, all others all. */
    private static void weakOf(TentPegs x, int n) {
        strong(x, n);
        x.peg(0, 0, 5, 4);
    }

    private static void nightStand() {
        answers("27: no GUSTS: how many STAND now", 7, x -> x.stand(7, false), x -> x.night(0, 60, 0, 1));
        answers("27: 1 STANDS at last", 1, x -> weakOf(x, 2), x -> x.night(1, 60, 0, 1));
        answers("27: none STANDS at last", 0, x -> x.night(1, 60, 0, 1));
        answers("27: all STAND at last", 8, x -> strong(x, 8), x -> x.night(60, 60, 999999, 1));
        answers("27: who is GONE stays GONE", 7, x -> {
            strong(x, 8);
            x.stand(7, false);
        }, x -> x.night(60, 60, 999999, 1));
        // By 0: 57 by 0 takes 0 of three; then 35 by 4 pulls 1 (2 off) with 17 and 2 (by 5) with 26.
        answers("27: PEGS that go stay GONE, ahead of the next", 2, x -> weakOf(x, 3), x -> x.night(2, 60, 0, 1));
        answers("27: what came to others is GONE with the GUST: held", 2, x -> {
            weakOf(x, 3);
            x.peg(2, 1, 5, 8);
        }, x -> x.night(2, 60, 0, 1));
    }

    /** All hold all, but the one by that way just 60, 59, or nothing. */
    private static void one(TentPegs x, int way, int held) {
        strong(x, 8);
        x.peg(way, held == 60 ? 1 : held == 59 ? 2 : 0, held == 60 ? 5 : held == 59 ? 7 : 0, held == 60 ? 8 : held == 59 ? 7 : 0);
    }

    /** Worked out apart: the m-th gust by that seed is by that way, of 60, and all ahead of it are of less. */
    private static void gustOf60(int seed, int m, int way) {
        String name = "27: SEED " + seed + ", GUST " + m + " is by " + way + ", of 60";
        answers(name + ": held", 8, x -> one(x, way, 60), x -> x.night(m, 60, seed, 1));
        answers(name + ": not held", 7, x -> one(x, way, 59), x -> x.night(m, 60, seed, 1));
        answers(name + ": it comes as the last one", 8, x -> one(x, way, 59), x -> x.night(m - 1, 60, seed, 1));
    }

    private static void nightGusts() {
        gustOf60(11, 1, 5);
        gustOf60(317, 1, 7);
        gustOf60(999761, 1, 3);
        gustOf60(2604, 2, 7);
        gustOf60(48, 60, 7);
        gustOf60(602, 60, 4);
        answers("27: SEED 38, by s and 1 left over nothing", 8, x -> one(x, 7, 0), x -> x.night(1, 60, 38, 1));
        answers("27: SEED 0, by 2 left over nothing", 8, x -> one(x, 0, 0), x -> x.night(1, 1, 0, 1));
        answers("27: SEED 0, by 2 left over 1 of the second", 7, x -> one(x, 4, 0), x -> x.night(2, 1, 0, 1));
        answers("27: SEED 2, by 2 left over 1", 7, x -> one(x, 4, 0), x -> x.night(1, 1, 2, 1));
        answers("27: SEED 2, by 1 left over nothing", 8, x -> one(x, 4, 0), x -> x.night(1, 0, 2, 1));
        answers("27: SEED 0 is no GUST of nothing", 7, x -> one(x, 0, 0), x -> x.night(1, 60, 0, 1));
        answers("27: SEED 999999, the first is by 0, of 9: held", 8, x -> {
            strong(x, 8);
            x.peg(0, 0, 3, 3);
        }, x -> x.night(1, 60, 999999, 1));
        answers("27: SEED 999999, the first is by 0, of 9: not held", 7, x -> {
            strong(x, 8);
            x.peg(0, 0, 2, 4);
        }, x -> x.night(1, 60, 999999, 1));
    }

    private static void wakeRefused() {
        range("28: m", 0, 60, ASKED, (x, m) -> x.wake(m, 1, 1));
        range("28: s", 0, 60, ASKED, (x, s) -> x.wake(1, s, 1));
        range("28: SEED", 0, 999999, ASKED, (x, seed) -> x.wake(1, 1, seed));
        asks("28: nothing changes", 60, x -> { }, x -> x.wake(60, 30, 7));
        asks("28: of much told nothing changes", 4, Edges::muchTold, x -> x.wake(4, 15, 7));
    }

    private static void wake() {
        answers("28: NONE: none goes", NONE, x -> x.wake(10, 30, 7));
        answers("28: NONE: no GUSTS", NONE, x -> x.wake(0, 60, 7));
        answers("28: NONE: no STRENGTH", NONE, x -> x.wake(60, 0, 7));
        answers("28: one goes by the last GUST: behind it", 1, x -> one(x, 5, 59), x -> x.wake(1, 60, 11));
        answers("28: NONE: none goes by the last GUST", NONE, x -> one(x, 5, 60), x -> x.wake(1, 60, 11));
        answers("28: of like ones the latest", 60, x -> x.wake(60, 30, 7));
        answers("28: of like ones the latest, all go by the last", 11, x -> x.wake(11, 30, 7));
        answers("28: behind 0, who is GONE now", 0, x -> x.stand(7, false), x -> x.wake(0, 60, 7));
        answers("28: behind 60, who is GONE now", 60, x -> {
            strong(x, 8);
            x.stand(7, false);
        }, x -> x.wake(60, 60, 7));
        answers("28: LOST now", 60, Edges::drawAll, x -> x.wake(60, 0, 7));
        answers("28: LOST now, behind 0", 0, Edges::drawAll, x -> x.wake(0, 0, 7));
    }
}
