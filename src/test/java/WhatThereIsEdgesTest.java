/** Promises 29 to 34: a test for each sentence that names a bound. */
public final class WhatThereIsEdgesTest extends Edges {
    public static void main(String[] args) {
        part();
        imagesRefused();
        imagesKeep();
        imagesKeepUndo();
        imagesKeepNot();
        imagesAgain();
        status();
        statusNone();
        count();
        digest();
        digestOf();
        manyCalls();
        Due.end("WhatThereIsEdgesTest");
    }

    private static void part() {
        range("29: what", 0, 1, -100000, (x, what) -> x.part(what));
        answers("29: above, 0 at first", 0, x -> x.part(0));
        answers("29: below, 1 at first", 1, x -> x.part(1));
        answers("29: above, below 0", -1, x -> x.worth(0, 18), x -> x.part(0));
        answers("29: below, above 0", 4, x -> x.worth(0, 18), x -> x.part(1));
        answers("29: 0 by 1 again", 1, x -> x.worth(0, 18), x -> then(x.chance(60), fraction(x)));
        asks("29: nothing changes", 1, Edges::muchTold, x -> x.part(0));
        answers("29: a call refused leaves it", -996, x -> x.worth(0, 18), x -> then(x.chance(61), fraction(x)));
    }

    private static void imagesRefused() {
        range("30: IMAGE", 0, 1, BAD, (x, i) -> x.image(i));
        range("31: IMAGE", 0, 1, BAD, (x, i) -> x.from(i));
        no("31: none was kept, 0", x -> x.image(1), x -> x.from(0));
        no("31: none was kept, 1", x -> x.image(0), x -> x.from(1));
        no("31: none was kept by a call refused", x -> x.image(2), x -> x.from(1));
        bad("31: BAD is ahead of NO, 2", BAD, x -> { }, x -> x.from(2));
        bad("31: BAD is ahead of NO, -1", BAD, x -> { }, x -> x.from(-1));
        answers("30: 0 is kept", 1, x -> x.image(0));
        answers("30: 1 is kept", 1, x -> x.image(1));
        answers("31: from 0", 1, x -> x.image(0), x -> x.from(0));
        answers("31: from 1", 1, x -> x.image(1), x -> x.from(1));
        asks("30: kept once more as it was, nothing changes", 1, x -> x.image(1), x -> x.image(1));
        for (int image = 0; image <= 1; image++) {
            int i = image;
            comesBack("30: nothing else, " + i, x -> allTold(x, i), x -> x.image(i));
            comesBack("31: nothing else, " + i, x -> allTold(x, i), x -> then(x.from(1 - i), x.from(i)));
        }
    }

    /** An image is kept, something changes: from it on all is as it was. */
    private static void kept(String sentence, Told change) {
        for (int i = 0; i < 2; i++) {
            int image = i;
            answers("30: kept by " + image + ": " + sentence, 0, x -> { }, x -> {
                muchTold(x);
                x.image(image);
                long before = x.digest();
                change.on(x);
                long between = x.digest();
                x.from(image);
                return (x.digest() == before ? 0 : 1) + (between == before ? 2 : 0);
            });
        }
    }

    private static void imagesKeep() {
        kept("KIND", x -> x.peg(0, 1, 7, 6));
        kept("DEPTH", x -> x.peg(0, 5, 0, 6));
        kept("GROUND", x -> x.peg(0, 5, 7, 0));
        kept("who STANDS, put back", x -> x.stand(4, true));
        kept("who STANDS, drawn", x -> x.stand(0, false));
        kept("who STANDS, of a GUST", x -> x.gust(0, 60));
        kept("WET", x -> x.wet(9));
        kept("WALLS, one more", x -> x.wall(7, true));
        kept("WALLS, one less", x -> x.wall(2, false));
        kept("ODDS", x -> x.odds(6, 20));
        kept("n, fewer", x -> x.tent(2));
        kept("n, more", x -> x.tent(8));
        answers("30: kept: KIND of the last PEG", 5, x -> {
            x.peg(7, 5, 1, 1);
            x.image(0);
            x.tent(8);
        }, x -> then(x.from(0), x.of(7, 0)));
        answers("30: kept: ODDS of the last WAY", 20, x -> {
            x.odds(7, 20);
            x.image(0);
            x.tent(8);
        }, x -> then(x.from(0), x.odds(7, 1)));
    }

    private static void imagesKeepUndo() {
        answers("31: what may be undone is kept", 2, x -> {
            changes(x, 2);
            x.image(0);
            x.tent(8);
        }, x -> then(x.from(0), x.count(4)));
        answers("31: what may be undone is kept, it is undone", 8, x -> {
            changes(x, 2);
            x.image(0);
            changes(x, 11);
        }, x -> then(x.from(0), then(x.undo(), then(x.undo(), x.count(1)))));
        answers("31: 10 that may be undone are kept", 8, x -> {
            changes(x, 10);
            x.image(1);
            x.tent(8);
        }, x -> {
            x.from(1);
            for (int left = x.count(4); left > 0; left--) {
                x.undo();
            }
            return x.count(1);
        });
        no("31: where none could be undone none may be", x -> {
            x.image(0);
            x.stand(0, false);
            x.from(0);
        }, x -> x.undo());
        answers("31: it is no change that may be undone", 1, x -> {
            x.stand(0, false);
            x.image(0);
        }, x -> then(x.from(0), x.count(4)));
    }

    private static void imagesKeepNot() {
        answers("31: THE TEXT stays as it is, more", 1, x -> {
            x.image(0);
            x.type('a');
        }, x -> then(x.from(0), x.count(5)));
        answers("31: THE TEXT stays as it is, empty", 0, x -> {
            x.type('a');
            x.image(0);
            x.clear();
        }, x -> then(x.from(0), x.count(5)));
        answers("31: THE FRACTION stays as it is", -996, x -> {
            x.image(0);
            x.worth(0, 18);
        }, x -> then(x.from(0), fraction(x)));
        answers("31: STATUS stays as it is, BAD", 1, x -> {
            x.image(0);
            x.wet(10);
        }, x -> then(x.from(0), x.status(0)));
        answers("31: STATUS stays as it is, NO", 1, x -> {
            x.image(0);
            x.undo();
        }, x -> then(x.from(0), x.status(1)));
        answers("31: STATUS stays as it is, FULL", 1, x -> {
            x.image(0);
            fill(x);
            x.type(0);
        }, x -> then(x.from(0), x.status(2)));
        answers("31: the other IMAGE stays as it is", 9, x -> {
            x.image(0);
            x.wet(9);
            x.image(1);
        }, x -> then(x.from(0), then(x.from(1), x.count(2))));
        answers("31: the other IMAGE stays kept", 1, x -> {
            x.image(0);
            x.image(1);
        }, x -> then(x.from(0), x.from(1)));
    }

    private static void imagesAgain() {
        answers("30: kept anew", 9, x -> {
            x.image(0);
            x.wet(9);
            x.image(0);
            x.wet(1);
        }, x -> then(x.from(0), x.count(2)));
        answers("30: the other one is not kept anew", 0, x -> {
            x.image(1);
            x.wet(9);
            x.image(0);
        }, x -> then(x.from(1), x.count(2)));
        answers("30: the other one is not kept anew, 0", 0, x -> {
            x.image(0);
            x.wet(9);
            x.image(1);
        }, x -> then(x.from(0), x.count(2)));
        answers("30: what may be undone stays", 8, x -> {
            changes(x, 2);
            x.image(0);
        }, x -> then(x.undo(), then(x.undo(), x.count(1))));
        answers("31: it goes on, and the IMAGE stays", 0, x -> {
            x.image(0);
            x.from(0);
            x.wet(9);
        }, x -> then(x.from(0), x.count(2)));
        answers("31: it goes on, and the IMAGE of a PEG stays", 0, x -> {
            x.image(0);
            x.from(0);
            x.peg(7, 5, 1, 1);
        }, x -> then(x.from(0), x.of(7, 0)));
        answers("31: behind a tent", 8, x -> {
            x.image(0);
            x.tent(2);
        }, x -> then(x.from(0), x.count(1)));
        answers("31: behind a FIELD that was read", 8, x -> {
            x.image(0);
            readTwo(x);
        }, x -> then(x.from(0), x.count(1)));
    }

    private static void status() {
        range("32: what", 0, 2, -1, (x, what) -> x.status(what));
        answers("32: another what counts, as the second", 2, x -> x.status(3), x -> then(x.status(-1), x.status(0)));
        answers("32: far more", 400, x -> {
            for (int i = 0; i < 400; i++) {
                x.tent(1);
            }
        }, x -> x.status(0));
        answers("32: a tent leaves it", 1, x -> x.tent(1), x -> then(x.tent(8), x.status(0)));
        asks("32: nothing changes", 1, Edges::muchTold, x -> x.status(0));
    }

    /** Answers below 0 that are not told to be refusals. */
    private static void statusNone() {
        asks("32: -5 of first is none", SHORT, Edges::muchTold, x -> x.first(0, 1, 0));
        asks("32: -5 of twofold is none", SHORT, Edges::muchTold, x -> x.twofold(1, 1));
        asks("32: NONE of twofold is none", NONE, Edges::drawAll, x -> x.twofold(1, 0));
        asks("32: NONE of strokes is none", NONE, x -> x.peg(0, 0, 0, 0), x -> x.strokes(0, 1, NONE));
        asks("32: NONE of setUp is none", NONE, Edges::muchTold, x -> x.setUp(1, 0, 0, 0));
        asks("32: -5 of setUp is none", SHORT, Edges::muchTold, x -> x.setUp(2, 0, 1, 5));
        asks("32: NONE of morning is none", NONE, x -> { }, x -> x.morning(1, 1));
        asks("32: NONE of night is none", NONE, x -> { }, x -> x.night(0, 0, 0, 0));
        asks("32: NONE of wake is none", NONE, x -> { }, x -> x.wake(0, 0, 0));
        asks("32: a FAULT is none", -10, x -> { }, x -> x.read());
        asks("32: an ITEM refused is none", -1000, x -> type(x, "tent 1;"), x -> x.read());
    }

    private static void count() {
        range("33: what", 0, 5, BAD, (x, what) -> x.count(what));
        int[] most = {8, 8, 9, 255, 10, 150};
        int[] least = {2, 0, 0, 0, 0, 0};
        for (int w = 0; w < most.length; w++) {
            int what = w;
            answers("33: the most, " + what, most[what], Edges::muchOfAll, x -> x.count(what));
            answers("33: the least, " + what, least[what], WhatThereIsEdgesTest::little, x -> x.count(what));
            asks("33: nothing changes, " + what, new int[] {5, 4, 3, 4, 2, 20}[what], Edges::muchTold, x -> x.count(what));
        }
        answers("33: none STANDS", 0, Edges::drawAll, x -> x.count(1));
        answers("33: WALLS are bits, 0", 1, x -> x.wall(0, true), x -> x.count(3));
        answers("33: WALLS are bits, 7", 128, x -> x.wall(7, true), x -> x.count(3));
    }

    private static void little(TentPegs x) {
        Due.read(x, "tent 2;gone 0;gone 1;");
        x.clear();
    }

    /** What the document tells of it, from what else is answered; it wraps around as long numbers do. */
    private static long worked(TentPegs x, int... odds) {
        long h = 883;
        for (int what = 0; what <= 5; what++) {
            h = 31 * h + x.count(what);
        }
        for (int k = 0; k < x.count(0); k++) {
            for (int what : new int[] {0, 1, 2, 4}) {
                h = 31 * h + x.of(k, what);
            }
        }
        for (int way = 0; way < 8; way++) {
            h = 31 * h + odds[way];
        }
        return 31 * (31 * h + x.part(0)) + x.part(1);
    }

    private static void digest() {
        answers("34: a new one, wrapped around", -4328522070395777788L, x -> x.digest());
        answers("34: a new one", 0, x -> x.digest() - worked(x, 1, 1, 1, 1, 1, 1, 1, 1));
        answers("34: of 2 PEGS", 0, x -> x.tent(2), x -> x.digest() - worked(x, 1, 1, 1, 1, 1, 1, 1, 1));
        answers("34: of much told", 0, Edges::muchTold, x -> x.digest() - worked(x, 4, 1, 1, 1, 1, 1, 0, 1));
        answers("34: all of the most", 0, Edges::muchOfAll, x -> x.digest() - worked(x, 20, 20, 20, 20, 20, 20, 20, 20));
        answers("34: none STANDS", 0, Edges::drawAll, x -> x.digest() - worked(x, 1, 1, 1, 1, 1, 1, 1, 1));
        answers("34: THE FRACTION below 0", 0, x -> x.worth(0, 18), x -> x.digest() - worked(x, 1, 1, 1, 1, 1, 1, 1, 1));
        asks("34: nothing changes", -4328522070395777788L, x -> { }, x -> x.digest());
        comesBack("34: nothing changes, all told", Edges::allTold, x -> x.digest());
        answers("34: what may be undone stays", 8, x -> changes(x, 2),
            x -> then(x.digest(), then(x.undo(), then(x.undo(), x.count(1)))));
    }

    /** An object is used for at most 512 calls: the last of them answers as the first ones do. */
    private static void manyCalls() {
        answers("34: 512 calls: the last one", -4328522070395777788L, x -> {
            for (int i = 0; i < 511; i++) {
                x.first(i % 8, 60, NONE);
            }
        }, x -> x.digest());
        answers("12: 512 calls: 10 of 510 may be undone", 10, x -> {
            for (int i = 0; i < 511; i++) {
                x.gust(i % 8, 0);
            }
        }, x -> x.count(4));
        answers("7: 512 calls: 150 of 510 bytes are kept", 150, x -> {
            for (int i = 0; i < 511; i++) {
                x.type('a');
            }
        }, x -> x.clear());
    }

    /** Whether the digest is another one behind a change, and the same one behind what it does not tell. */
    private static void shows(String sentence, int want, Told told, Told change) {
        answers("34: " + sentence, want, told, x -> {
            long before = x.digest();
            change.on(x);
            return x.digest() == before ? 0 : 1;
        });
    }

    private static void shows(String sentence, Told change) {
        shows(sentence, 1, Edges::muchTold, change);
    }

    private static void hides(String sentence, Told told, Told change) {
        shows(sentence, 0, told, change);
    }

    private static void digestOf() {
        shows("KIND of the last PEG", x -> x.peg(4, 5, 5, 4));
        shows("DEPTH of the last PEG", x -> x.peg(4, 0, 4, 4));
        shows("GROUND of the last PEG", x -> x.peg(4, 0, 5, 5));
        shows("ODDS of the last WAY", x -> x.odds(7, 2));
        shows("how many may be undone", x -> x.gust(0, 0));
        shows("a byte of THE TEXT", x -> x.type(0));
        shows("THE FRACTION", x -> x.chance(0));
        hides("BAD of STATUS is not in it", Edges::muchTold, x -> x.tent(1));
        hides("NO of STATUS is not in it", x -> { }, x -> x.undo());
        hides("FULL of STATUS is not in it", Edges::fill, x -> x.type(' '));
        for (int image = 0; image <= 1; image++) {
            int i = image;
            hides("IMAGES are not in it: the first kept as " + i, x -> { }, x -> x.image(i));
            hides("IMAGES are not in it: another kept as " + i, WhatThereIsEdgesTest::muchBehindImages, x -> x.image(i));
        }
    }

    private static void muchBehindImages(TentPegs x) {
        x.image(0);
        x.image(1);
        x.tent(5);
        muchOfAll(x);
    }
}
