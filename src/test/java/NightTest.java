/** Promises 27 and 28: nights by a seed, and when to get up. */
public final class NightTest {
    private static final int LOW = Integer.MIN_VALUE, HIGH = Integer.MAX_VALUE;
    private static final int NONE = TentPegs.NONE, ASKED = -10;

    /** The gusts of nights, worked out apart: way and strength, one behind the other. */
    private static final int[] BY_7_UP_TO_30 = {4, 10, 4, 13, 3, 17, 2, 15, 1, 1, 5, 5, 6, 20, 5, 12, 1, 1, 6, 20, 4, 22, 7, 22};
    private static final int[] BY_0_UP_TO_60 = {0, 57, 4, 35, 2, 30, 5, 38, 2, 53, 5, 29};
    private static final int[] BY_999999_UP_TO_60 = {0, 9, 7, 43, 6, 29, 7, 21, 0, 19, 1, 25};

    public static void main(String[] args) {
        nightIsItsGusts(BY_7_UP_TO_30, 30, 7);
        nightIsItsGusts(BY_0_UP_TO_60, 60, 0);
        nightIsItsGusts(BY_999999_UP_TO_60, 60, 999999);
        nightLost();
        nightOfOneLeft();
        nightBad();
        wake();
        wakeBad();
        Due.end("NightTest");
    }

    private static TentPegs strong() {
        TentPegs x = new TentPegs();
        for (int k = 0; k < 8; k++) {
            x.peg(k, 1, 9, k == 2 || k == 4 || k == 6 ? 1 : 9);
        }
        return x;
    }

    private static void nightIsItsGusts(int[] gusts, int s, int seed) {
        TentPegs asked = strong();
        TentPegs blown = strong();
        int lost = NONE;
        for (int m = 0; m <= gusts.length / 2; m++) {
            if (m > 0) {
                int answer = blown.gust(gusts[2 * m - 2], gusts[2 * m - 1]);
                Due.holds("five of them hold all", answer != TentPegs.NO);
            }
            Due.due("night(" + m + ", " + s + ", " + seed + ", 1)", asked.night(m, s, seed, 1), blown.count(1));
            Due.due("night(" + m + ", " + s + ", " + seed + ", 0)", asked.night(m, s, seed, 0), lost);
        }
        Due.due("count(1)", asked.count(1), 8);
        Due.due("count(4)", asked.count(4), 0);
    }

    private static void nightLost() {
        TentPegs x = new TentPegs();
        long before = Due.all(x);
        // By 7: 22 by the south as the 11th is the first above 20, and takes all.
        Due.due("night(10, 30, 7, 0)", x.night(10, 30, 7, 0), NONE);
        Due.due("night(10, 30, 7, 1)", x.night(10, 30, 7, 1), 8);
        Due.due("night(11, 30, 7, 0)", x.night(11, 30, 7, 0), 11);
        Due.due("night(11, 30, 7, 1)", x.night(11, 30, 7, 1), 0);
        Due.due("night(60, 30, 7, 0)", x.night(60, 30, 7, 0), 11);
        Due.due("no strength", x.night(60, 0, 7, 0), NONE);
        Due.due("no strength", x.night(60, 0, 7, 1), 8);
        Due.due("all after nights", Due.all(x), before);
        x.gust(0, 60);
        Due.due("lost now", x.night(0, 30, 7, 0), 0);
        Due.due("lost now", x.night(11, 30, 7, 0), 0);
        Due.due("lost now", x.night(11, 30, 7, 1), 0);
        Due.refused(x, 0, 0, 0);
    }

    private static void nightOfOneLeft() {
        TentPegs x = new TentPegs();
        x.tent(4);
        for (int k = 0; k < 3; k++) {
            x.stand(k, false);
        }
        // 3 by the west holds 20: of the gusts by 7 the 12th, 22 by the north-west, pulls it with 16.
        Due.due("one stands", x.night(12, 30, 7, 0), 0);
        Due.due("one stands", x.night(12, 30, 7, 1), 1);
        x.peg(3, 0, 3, 5);
        Due.due("one stands up to 15", x.night(6, 30, 7, 1), 1);
        Due.due("gusts go on when it is lost", x.night(7, 30, 7, 1), 0);
    }

    private static void nightBad() {
        TentPegs x = new TentPegs();
        int[][] told = {{-1, 0, 0, 0}, {61, 0, 0, 0}, {HIGH, 0, 0, 0}, {LOW, 0, 0, 0}, {0, -1, 0, 0}, {0, 61, 0, 0},
            {0, HIGH, 0, 0}, {0, 0, -1, 0}, {0, 0, 1000000, 0}, {0, 0, LOW, 0}, {0, 0, 0, -1}, {0, 0, 0, 2}, {0, 0, 0, HIGH}};
        for (int[] t : told) {
            Due.due("night", x.night(t[0], t[1], t[2], t[3]), ASKED);
        }
        Due.refused(x, told.length, 0, 0);
        Due.due("night(60, 60, 999999, 0) may be asked", x.night(60, 60, 999999, 0) > 0 ? 1 : 0, 1);
    }

    private static void wake() {
        TentPegs x = new TentPegs();
        long before = Due.all(x);
        Due.due("none goes", x.wake(10, 30, 7), NONE);
        Due.due("the latest", x.wake(11, 30, 7), 11);
        Due.due("the latest", x.wake(60, 30, 7), 60);
        Due.due("no gust", x.wake(0, 60, 7), NONE);
        Due.due("all after wake", Due.all(x), before);
        x.stand(3, false);
        Due.due("now", x.wake(0, 60, 7), 0);
        Due.due("behind the last", x.wake(10, 30, 7), 10);
        x.gust(0, 60);
        Due.due("lost now", x.wake(0, 60, 7), 0);
        Due.due("lost now", x.wake(3, 60, 7), 3);
        Due.refused(x, 0, 0, 0);
    }

    private static void wakeBad() {
        TentPegs x = new TentPegs();
        int[][] told = {{-1, 0, 0}, {61, 0, 0}, {LOW, 0, 0}, {0, -1, 0}, {0, 61, 0}, {0, HIGH, 0}, {0, 0, -1}, {0, 0, 1000000}};
        for (int[] t : told) {
            Due.due("wake", x.wake(t[0], t[1], t[2]), ASKED);
        }
        Due.due("wake(60, 60, 999999) may be asked", x.wake(60, 60, 999999), 60);
        Due.refused(x, told.length, 0, 0);
    }
}
