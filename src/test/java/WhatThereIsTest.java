/** Promises 29 to 34: the fraction, images, what was refused, counts, the digest. */
public final class WhatThereIsTest {
    private static final int LOW = Integer.MIN_VALUE, HIGH = Integer.MAX_VALUE;

    public static void main(String[] args) {
        part();
        imageKeeps();
        imageKeepsNot();
        imagesTwo();
        imageRefused();
        status();
        count();
        digest();
        Due.end("WhatThereIsTest");
    }

    private static void part() {
        TentPegs x = new TentPegs();
        Due.due("part(0)", x.part(0), 0);
        Due.due("part(1)", x.part(1), 1);
        x.odds(2, 5);
        x.peg(2, 0, 3, 3);
        // By 2 up to 9 are held: 12 by odds of 5 is not; those beside pull 9.
        x.chance(12);
        Due.due("part(0)", x.part(0), 7);
        Due.due("part(1)", x.part(1), 12);
        for (int what : new int[] {-1, 2, LOW, HIGH}) {
            Due.due("part", x.part(what), -100000);
        }
        Due.due("part(0)", x.part(0), 7);
        Due.refused(x, 4, 0, 0);
    }

    private static void tellAll(TentPegs x) {
        x.tent(5);
        x.peg(0, 1, 9, 9);
        x.peg(4, 4, 0, 1);
        x.wet(5);
        x.wall(2, true);
        x.odds(0, 20);
        x.stand(1, false);
        x.stand(3, false);
    }

    private static void imageKeeps() {
        TentPegs x = new TentPegs();
        tellAll(x);
        long before = x.digest();
        Due.due("image(0)", x.image(0), 1);
        Due.due("digest after image", x.digest(), before);
        x.undo();
        x.peg(0, 2, 1, 1);
        x.peg(4, 2, 1, 1);
        x.wet(0);
        x.wall(2, false);
        x.wall(3, true);
        x.odds(0, 0);
        x.gust(0, 60);
        Due.holds("it has changed", x.digest() != before);
        Due.due("from(0)", x.from(0), 1);
        Due.due("digest", x.digest(), before);
        Due.due("count(4)", x.count(4), 2);
        Due.due("undo()", x.undo(), 1);
        Due.due("of(3, 4)", x.of(3, 4), 1);
        Due.due("of(1, 4)", x.of(1, 4), 0);
        Due.due("undo()", x.undo(), 1);
        Due.due("count(1)", x.count(1), 5);
        x.tent(8);
        x.gust(1, 60);
        Due.due("from(0) again", x.from(0), 1);
        Due.due("digest", x.digest(), before);
        Due.due("undo()", x.undo(), 1);
        Due.due("of(3, 4)", x.of(3, 4), 1);
        Due.due("count(0)", x.count(0), 5);
    }

    private static void imageKeepsNot() {
        TentPegs x = new TentPegs();
        x.type('a');
        x.image(1);
        x.type('b');
        x.type('c');
        x.odds(0, 0);
        x.peg(0, 0, 0, 0);
        x.chance(4);
        x.wet(10);
        x.undo();
        Due.due("from(1)", x.from(1), 1);
        Due.due("THE TEXT stays", x.count(5), 3);
        Due.due("THE FRACTION stays", x.part(0), 1);
        Due.due("THE FRACTION stays", x.part(1), 7);
        Due.refused(x, 1, 1, 0);
        Due.due("odds", x.odds(0, 1), 1);
    }

    private static void imagesTwo() {
        TentPegs x = new TentPegs();
        x.wet(1);
        x.image(0);
        x.wet(2);
        x.image(1);
        x.wet(3);
        x.from(0);
        Due.due("count(2)", x.count(2), 1);
        x.from(1);
        Due.due("count(2)", x.count(2), 2);
        x.from(0);
        x.image(1);
        x.wet(4);
        x.image(0);
        x.from(1);
        Due.due("count(2)", x.count(2), 1);
        x.from(0);
        Due.due("count(2)", x.count(2), 4);
        x.tent(3);
        Due.read(x, "tent 2;");
        x.from(1);
        Due.due("images outlast tents", x.count(2), 1);
    }

    private static void imageRefused() {
        TentPegs x = new TentPegs();
        x.image(1);
        x.wet(7);
        Due.due("from(0)", x.from(0), TentPegs.NO);
        for (int i : new int[] {-1, 2, LOW, HIGH}) {
            Due.due("image", x.image(i), TentPegs.BAD);
            Due.due("from", x.from(i), TentPegs.BAD);
        }
        Due.due("count(2)", x.count(2), 7);
        Due.refused(x, 8, 1, 0);
    }

    private static void status() {
        TentPegs x = new TentPegs();
        x.tent(1);
        x.first(8, 0, 0);
        x.part(2);
        x.undo();
        x.from(0);
        for (int i = 0; i < 153; i++) {
            x.type('t');
        }
        x.clear();
        x.read();
        Due.read(x, "tent 9;");
        x.first(0, 0, 0);
        x.morning(1, 1);
        x.wake(0, 0, 0);
        x.setUp(1, 0, 0, 0);
        x.strokes(0, 60, 0);
        Due.refused(x, 3, 2, 3);
        int bads = 3;
        for (int what : new int[] {3, -1, LOW, HIGH}) {
            Due.due("status", x.status(what), -1);
            bads++;
        }
        Due.refused(x, bads, 2, 3);
        x.tent(4);
        Due.read(x, "tent 4;");
        Due.refused(x, bads, 2, 3);
    }

    private static void count() {
        TentPegs x = new TentPegs();
        tellAll(x);
        x.type('a');
        int[] counts = {5, 3, 5, 4, 2, 1};
        for (int what = 0; what < counts.length; what++) {
            Due.due("count(" + what + ")", x.count(what), counts[what]);
        }
        for (int what : new int[] {-1, 6, LOW, HIGH}) {
            Due.due("count", x.count(what), TentPegs.BAD);
        }
        Due.refused(x, 4, 0, 0);
    }

    private static void digest() {
        TentPegs x = new TentPegs();
        // Both numbers were worked out apart from the program.
        Due.due("digest of a new one", x.digest(), -4328522070395777788L);
        x.type(0);
        x.type(0);
        x.clear();
        Due.due("digest of a new one", x.digest(), -4328522070395777788L);
        x.tent(3);
        x.peg(0, 5, 9, 0);
        x.peg(2, 4, 0, 9);
        x.wet(7);
        x.wall(0, true);
        x.wall(5, true);
        x.odds(0, 0);
        x.odds(1, 20);
        x.odds(7, 7);
        x.type('x');
        x.type('y');
        x.stand(1, false);
        fractionOfMinusOneFourth(x);
        Due.due("digest of one told", x.digest(), 8203085483093591878L);
        Due.refused(x, 0, 0, 0);
    }

    /** An object's own tent is put aside for it. */
    private static void fractionOfMinusOneFourth(TentPegs x) {
        x.image(0);
        x.tent(8);
        x.worth(0, 18);
        x.from(0);
        Due.due("part(0)", x.part(0), -1);
        Due.due("part(1)", x.part(1), 4);
    }
}
