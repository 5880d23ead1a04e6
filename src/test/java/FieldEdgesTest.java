/** Promises 1 to 9: a test for each sentence that names a bound. */
public final class FieldEdgesTest extends Edges {
    public static void main(String[] args) {
        aNewObject();
        tent();
        tentIsAsAtFirst();
        tentWays();
        peg();
        nothingElse();
        wet();
        wall();
        odds();
        type();
        clear();
        texts();
        items();
        tooEarly();
        numbers();
        bytes();
        words();
        refusedItems();
        takenItems();
        toldAnew();
        leftAsItWas();
        Due.end("FieldEdgesTest");
    }

    private static void aNewObject() {
        answers("1: 8 PEGS at first", 8, x -> x.count(0));
        answers("1: PLAIN at first", 0, x -> x.of(7, 0));
        answers("1: DEPTH 5 at first", 5, x -> x.of(7, 1));
        answers("1: GROUND 4 at first", 4, x -> x.of(7, 2));
        answers("1: all STAND at first", 8, x -> x.count(1));
        answers("1: WET 0 at first", 0, x -> x.count(2));
        answers("1: no WALLS at first", 0, x -> x.count(3));
        answers("1: none may be undone at first", 0, x -> x.count(4));
        answers("1: THE TEXT is empty at first", 0, x -> x.count(5));
        for (int w = 0; w < 8; w++) {
            int way = w;
            answers("1: ODDS 1 each at first, by " + way, 1, x -> x.odds(way, 1));
        }
        answers("1: THE FRACTION is 0 by 1 at first", 1, Edges::fraction);
        for (int i = 0; i < 2; i++) {
            int image = i;
            no("1: no IMAGE " + image + " at first", x -> { }, x -> x.from(image));
        }
        for (int w = 0; w < 3; w++) {
            int what = w;
            answers("1: STATUS 0 at first, " + what, 0, x -> x.status(what));
        }
    }

    private static void tent() {
        range("2: n", 2, 8, BAD, (x, n) -> x.tent(n));
        bad("2: n is 0", BAD, x -> x.tent(0));
        answers("2: what n was, 8", 8, x -> x.tent(2));
        answers("2: what n was, 2", 2, x -> x.tent(2), x -> x.tent(8));
        bad("2: PEG 2 of 2 is none", BAD, x -> x.tent(2), x -> x.of(2, 0));
        bad("2: PEG 7 of 7 is none", BAD, x -> x.tent(7), x -> x.of(7, 0));
        answers("2: PEG 1 of 2 is one", 5, x -> x.tent(2), x -> x.of(1, 1));
        answers("2: PEG 7 of 8 is one", 5, x -> x.tent(8), x -> x.of(7, 1));
    }

    private static void tentIsAsAtFirst() {
        for (int w = 0; w < 3; w++) {
            int what = w;
            answers("2: all as at first, of(0, " + what + ")", new int[] {0, 5, 4}[what],
                x -> x.peg(0, 5, 9, 9), x -> then(x.tent(8), x.of(0, what)));
            answers("2: what a lesser tent left out is as at first, of(7, " + what + ")", new int[] {0, 5, 4}[what],
                x -> x.peg(7, 5, 9, 9), x -> then(x.tent(3), then(x.tent(8), x.of(7, what))));
        }
        answers("2: all STAND", 8, x -> x.stand(7, false), x -> then(x.tent(8), x.count(1)));
        answers("2: all of 2 STAND", 2, x -> x.stand(0, false), x -> then(x.tent(2), x.count(1)));
        answers("2: who a lesser tent left out STANDS", 1, x -> x.stand(7, false),
            x -> then(x.tent(7), then(x.tent(8), x.of(7, 4))));
        answers("2: nothing else told, WET", 0, x -> x.wet(9), x -> then(x.tent(8), x.count(2)));
        answers("2: nothing else told, WALLS", 0, x -> x.wall(7, true), x -> then(x.tent(8), x.count(3)));
        answers("2: nothing else told, ODDS of 7", 1, x -> x.odds(7, 20), x -> then(x.tent(8), x.odds(7, 1)));
        answers("2: nothing else told, ODDS of 0", 1, x -> x.odds(0, 0), x -> then(x.tent(8), x.odds(0, 1)));
        no("2: none may be undone behind it", x -> {
            x.stand(0, false);
            x.tent(8);
        }, x -> x.undo());
    }

    private static void tentWays() {
        int[][] ways = {{0, 4}, {0, 2, 5}, {0, 2, 4, 6}, {0, 1, 3, 4, 6}, {0, 1, 2, 4, 5, 6},
            {0, 1, 2, 3, 4, 5, 6}, {0, 1, 2, 3, 4, 5, 6, 7}};
        for (int[] round : ways) {
            for (int k = 0; k < round.length; k++) {
                int peg = k;
                answers("2: k times 8 by n (cut), " + k + " of " + round.length, round[k],
                    x -> x.tent(round.length), x -> x.of(peg, 5));
            }
        }
    }

    private static void peg() {
        range("3: PEG", 0, 4, BAD, (x, k) -> x.peg(k, 1, 2, 3));
        range("3: PEG of 2", 0, 1, BAD, x -> x.tent(2), (x, k) -> x.peg(k, 1, 2, 3));
        range("3: PEG of 8", 0, 7, BAD, x -> x.tent(8), (x, k) -> x.peg(k, 1, 2, 3));
        range("3: KIND", 0, 5, BAD, (x, kind) -> x.peg(0, kind, 2, 3));
        range("3: DEPTH", 0, 9, BAD, (x, depth) -> x.peg(0, 1, depth, 3));
        range("3: GROUND", 0, 9, BAD, (x, ground) -> x.peg(0, 1, 2, ground));
        answers("3: its KIND as it was, 0", 0, x -> x.peg(0, 5, 0, 0));
        answers("3: its KIND as it was, 5", 5, x -> x.peg(0, 5, 0, 0), x -> x.peg(0, 5, 0, 0));
        for (int n : new int[] {0, 9}) {
            answers("3: DEPTH " + n, n, x -> x.peg(7, 1, n, 3), x -> x.of(7, 1));
            answers("3: GROUND " + n, n, x -> x.peg(7, 1, 3, n), x -> x.of(7, 2));
        }
        for (int k = 0; k < 6; k++) {
            int kind = k;
            answers("3: KIND " + kind, kind, x -> x.peg(7, kind, 3, 3), x -> x.of(7, 0));
        }
        answers("3: no other PEG's", 354, x -> x.peg(6, 1, 2, 3),
            x -> 300 + 100 * x.of(7, 0) + 10 * x.of(7, 1) + x.of(7, 2));
        answers("3: one that is GONE stays so", 0, x -> x.stand(7, false), x -> x.peg(7, 1, 2, 3) + x.of(7, 4));
    }

    /** What a call tells is told back as it was; from(0) goes back where it can not be. */
    private static void nothingElse() {
        comesBack("2: nothing else", x -> allTold(x, 0), x -> then(x.tent(3), x.from(0)));
        comesBack("3: nothing else", Edges::allTold, x -> then(x.peg(1, 0, 1, 1), x.peg(1, 4, 9, 8)));
        comesBack("3: nothing else, of one that is GONE", Edges::allTold, x -> then(x.peg(4, 0, 1, 1), x.peg(4, 2, 5, 4)));
        comesBack("4: nothing else", Edges::allTold, x -> then(x.wet(9), x.wet(3)));
        comesBack("5: nothing else, one more", Edges::allTold, x -> then(x.wall(7, true), x.wall(7, false)));
        comesBack("5: nothing else, one less", Edges::allTold, x -> then(x.wall(2, false), x.wall(2, true)));
        comesBack("6: nothing else", Edges::allTold, x -> then(x.odds(6, 20), x.odds(6, 0)));
        comesBack("7, 8: nothing else", Edges::allTold, x -> {
            x.clear();
            x.type('a');
            x.clear();
            type(x, TEXT);
            fill(x);
        });
        comesBack("9: nothing else", x -> allTold(x, 0), x -> then(x.read(), x.from(0)));
    }

    private static void wet() {
        range("4: WET", 0, 9, BAD, (x, n) -> x.wet(n));
        answers("4: what it was, 0", 0, x -> x.wet(9));
        answers("4: what it was, 9", 9, x -> x.wet(9), x -> x.wet(0));
        answers("4: it is 9", 9, x -> x.wet(9), x -> x.count(2));
        answers("4: it is 0 again", 0, x -> x.wet(9), x -> then(x.wet(0), x.count(2)));
    }

    private static void wall() {
        range("5: WAY", 0, 7, BAD, x -> { }, (x, way) -> x.wall(way, true));
        range("5: WAY, none by it", 0, 7, BAD, x -> type(x, "a"), (x, way) -> x.wall(way, false));
        no("5: it is so", x -> x.wall(7, true), x -> x.wall(7, true));
        no("5: it is so, none", x -> x.wall(6, true), x -> x.wall(7, false));
        no("5: it is so, none any more", x -> {
            x.wall(7, true);
            x.wall(7, false);
        }, x -> x.wall(7, false));
        answers("5: a WALL by the first and the last WAY", 129, x -> x.wall(0, true), x -> then(x.wall(7, true), x.count(3)));
        answers("5: none", 1, x -> x.wall(0, true), x -> x.wall(0, false) + x.count(3));
        answers("5: all of them", 255, x -> {
            for (int way = 0; way < 8; way++) {
                x.wall(way, true);
            }
        }, x -> x.count(3));
    }

    private static void odds() {
        range("6: WAY", 0, 7, BAD, (x, way) -> x.odds(way, 1));
        range("6: ODDS", 0, 20, BAD, (x, n) -> x.odds(0, n));
        answers("6: what they were, 1", 1, x -> x.odds(7, 20));
        answers("6: what they were, 20", 20, x -> x.odds(7, 20), x -> x.odds(7, 0));
        answers("6: what they were, 0", 0, x -> x.odds(7, 0), x -> x.odds(7, 1));
        answers("6: no other WAY's", 1, x -> x.odds(7, 20), x -> x.odds(0, 1));
    }

    private static void type() {
        range("7: a byte", 0, 127, BAD, (x, c) -> x.type(c));
        answers("7: how many it has, 1", 1, x -> x.type(127));
        answers("7: how many it has, 150", 150, x -> {
            fill(x);
            x.clear();
            for (int i = 0; i < 149; i++) {
                x.type(0);
            }
        }, x -> x.type(0));
        full("7: FULL: 150", Edges::fill, x -> x.type(0));
        full("7: FULL: 150, again", x -> {
            fill(x);
            x.type(0);
        }, x -> x.type(127));
        full("7: FULL: 150, much told", x -> {
            muchTold(x);
            fill(x);
        }, x -> x.type('x'));
        bad("7: BAD is ahead of FULL, 128", BAD, Edges::fill, x -> x.type(128));
        bad("7: BAD is ahead of FULL, -1", BAD, Edges::fill, x -> x.type(-1));
    }

    private static void clear() {
        answers("8: it had none", 0, x -> x.clear());
        answers("8: it had 150", 150, Edges::fill, x -> x.clear());
        answers("8: it is empty", 0, Edges::fill, x -> then(x.clear(), x.count(5)));
        answers("8: it had none any more", 0, Edges::fill, x -> then(x.clear(), x.clear()));
        answers("8: a byte comes behind nothing", 1, Edges::fill, x -> then(x.clear(), x.type(0)));
    }

    /** A field that can not be told: nothing changes by it. */
    private static void fault(String sentence, String text, int at) {
        asks(named(sentence, text), -10 - at, x -> muchToldAnd(x, text), x -> x.read());
    }

    private static void refused(String sentence, String text, int item) {
        asks(named(sentence, text), -1000 - item, x -> muchToldAnd(x, text), x -> x.read());
    }

    private static void reads(String sentence, String text, int items) {
        answers(named(sentence, text), items, x -> muchToldAnd(x, text), x -> x.read());
    }

    /** In a name a byte that is no sign stands as a dot. */
    private static String named(String sentence, String text) {
        return "9: " + sentence + " \"" + text.replaceAll("[\\x00-\\x1f\\x7f]", ".") + "\"";
    }

    private static void muchToldAnd(TentPegs x, String text) {
        muchTold(x);
        x.clear();
        type(x, text);
    }

    private static void texts() {
        reads("the fewest ITEMS", "tent 2;", 1);
        String most = "tent8;" + "wet1;".repeat(28);
        reads("the most ITEMS", most, 29);
        String full = "tent 8;" + " ".repeat(142) + ";";
        fault("a FAULT at the last of 150 bytes", full, 149);
        reads("150 bytes", "tent 8" + " ".repeat(143) + ";", 1);
        reads("150 bytes, blanks at last", "tent 8;" + " ".repeat(143), 1);
        fault("150 bytes end too early", "tent 8" + " ".repeat(144), 150);
        refused("the last of the most ITEMS", "tent8;" + "wet1;".repeat(27) + "wet10;", 28);
        answers("9: a byte that was FULL is none of THE TEXT", 1, x -> {
            type(x, "tent 8;" + " ".repeat(143));
            x.type('x');
        }, x -> x.read());
        cleared("behind a number", "tent 8;", "tent 8", -16);
        cleared("behind a number of one figure", "tent 8;wet 88;", "tent 8;wet 8", -22);
        cleared("behind a word", "tent 8;wet 1;", "tent 8;we", -17);
        cleared("behind a blank", "tent 8 ;", "tent 8 ", -17);
        cleared("behind nothing", "tent 8;", "", -10);
        cleared("behind an ITEM", "tent 8;wet;", "tent 8;", 1);
    }

    private static void cleared(String sentence, String text, String then, int want) {
        answers("9: what was cleared is none of THE TEXT, " + sentence, want, x -> {
            type(x, text);
            x.clear();
            type(x, then);
        }, x -> x.read());
    }

    private static void items() {
        fault("tent first of all", "wet 1;tent 8;", 0);
        fault("tent first of all", "peg 0 0 0 0;", 0);
        fault("tent first of all", "wall 1;", 0);
        fault("tent first of all", "odds 0 0;", 0);
        fault("tent first of all", "gone 1;", 0);
        fault("anything ahead of it", ";tent 8;", 0);
        fault("anything ahead of it", "8 tent 8;", 0);
        fault("anything ahead of it, behind blanks", "  ;tent 8;", 2);
        fault("tent once", "tent 8;tent 8;", 7);
        fault("tent once, not behind another ITEM", "tent 8;wet 1;tent 8;", 13);
        fault("tent again in its own place", "tent tent 8;", 5);
        fault("no number", "tent ;", 5);
        fault("one number too many", "tent 8 8;", 7);
        fault("one number too few", "tent 8;peg 0 0 0;", 16);
        fault("one number too many", "tent 8;peg 0 0 0 0 0;", 19);
        fault("no number", "tent 8;wet;", 10);
        fault("one number too many", "tent 8;wet 1 1;", 13);
        fault("no number", "tent 8;wall;", 11);
        fault("one number too many", "tent 8;wall 1 1;", 14);
        fault("one number too few", "tent 8;odds 1;", 13);
        fault("one number too many", "tent 8;odds 1 1 1;", 16);
        fault("no number", "tent 8;gone;", 11);
        fault("one number too many", "tent 8;gone 1 1;", 14);
        fault("an empty ITEM", "tent 8;;", 7);
        fault("a number begins none", "tent 8;8;", 7);
        fault("a word where a number is due", "tent 8;peg 0 wet 0 0;", 13);
        fault("a word where ; is due", "tent 8 wet 1;", 7);
        fault("FAULT is ahead of an ITEM that is refused", "tent 9;wet 10;wall", 18);
        fault("FAULT is ahead of an ITEM that is refused", "tent 8;wall 9;wet 1;rain", 20);
    }

    private static void tooEarly() {
        fault("an empty one", "", 0);
        fault("an empty one of blanks", "   ", 3);
        fault("it ends behind a word", "tent", 4);
        fault("it ends behind a blank", "tent ", 5);
        fault("it ends behind a number", "tent 8", 6);
        fault("it ends behind a number and a blank", "tent 8 ", 7);
        fault("it ends behind a later word", "tent 8;peg", 10);
        fault("it ends behind a number of some", "tent 8;peg 0 0 0", 16);
        fault("it ends ahead of ;", "tent 8;peg 0 0 0 0", 18);
    }

    private static void numbers() {
        reads("a number of 2 figures", "tent 08;", 1);
        reads("a number of 2 figures, all 0", "tent 8;wet 00;", 2);
        fault("a number of more than 2 figures", "tent 008;", 5);
        fault("a number of more than 2 figures", "tent 8;wet 100;", 11);
        fault("a number of far more figures", "tent 00000000000000000000000000000000008;", 5);
        fault("a number of many figures, by 2 to the 32nd", "tent 8;wet 4294967296;", 11);
        fault("all figures that stand together are one", "tent 8;odds 712;", 12);
        fault("a blank parts figures", "tent 0 8;", 7);
        fault("nothing is below 0", "tent 8;wet -1;", 11);
    }

    private static void bytes() {
        for (int c : new int[] {0, 9, 10, 13, 31, 33, '/', ':', '<', '@', 'A', 'Z', '[', '`', '{', 127}) {
            fault("byte " + c + " begins none", "tent 8;" + (char) c, 7);
            fault("byte " + c + " ends a word", "tent 8;wet" + (char) c + "1;", 10);
            fault("byte " + c + " ends a number", "tent 8;wet 1" + (char) c + ";", 12);
        }
        reads("blanks between", " tent  8 ; wet  1 ; ", 2);
        reads("no blanks needed", "tent8;peg0 0 0 0;wet1;wall1;odds1 1;gone1;", 6);
        fault("a blank ends a word", "te nt 8;", 0);
        fault("a blank ends a later word", "tent 8;we t 1;", 7);
    }

    private static void words() {
        for (String item : new String[] {"peg 0 0 0 0;", "wet 0;", "wall 0;", "odds 0 0;", "gone 0;"}) {
            String word = item.substring(0, item.indexOf(' '));
            String rest = item.substring(word.length());
            reads("a word", "tent 8;" + item, 2);
            fault("a word that is none, a letter too few", "tent 8;" + word.substring(1) + rest, 7);
            fault("a word that is none, a letter too few at its end", "tent 8;" + word.substring(0, word.length() - 1) + rest, 7);
            fault("a word that is none, a letter too many", "tent 8;" + word + "s" + rest, 7);
            fault("a word that is none, two at once", "tent 8;" + word + word + rest, 7);
            fault("a word that is none, in great letters", "tent 8;" + word.toUpperCase() + rest, 7);
        }
        for (String word : new String[] {"peg", "wet", "wall", "odds", "gone"}) {
            for (int i = 0; i < word.length(); i++) {
                fault("a word that is none, another letter", "tent 8;" + other(word, i) + " 0;", 7);
            }
        }
        for (int i = 0; i < 4; i++) {
            fault("a word that is none, another letter", other("tent", i) + " 8;", 0);
        }
        fault("a word that is none, a letter too few", "ten 8;", 0);
        fault("a word that is none, a letter too many", "tents 8;", 0);
        fault("a word that is none, a great letter", "Tent 8;", 0);
        fault("a word that is none", "tent 8;wet 1;rain 1;", 13);
    }

    private static String other(String word, int i) {
        return word.substring(0, i) + "q" + word.substring(i + 1);
    }

    private static void refusedItems() {
        refused("n too small", "tent 1;", 0);
        refused("n too small", "tent 0;", 0);
        refused("n too large", "tent 9;", 0);
        refused("n far too large", "tent 99;", 0);
        refused("the first of two", "tent 9;wet 10;", 0);
        refused("the first of two", "tent 8;wet 9;wet 10;wet 1;wall 8;", 2);
        refused("PEG too large", "tent 8;peg 8 0 0 0;", 1);
        refused("PEG too large for this tent", "tent 2;peg 2 0 0 0;", 1);
        refused("KIND too large", "tent 8;peg 0 6 0 0;", 1);
        refused("DEPTH too large", "tent 8;peg 0 0 10 0;", 1);
        refused("GROUND too large", "tent 8;peg 0 0 0 10;", 1);
        refused("WET too large", "tent 8;wet 10;", 1);
        refused("WAY too large", "tent 8;wall 8;", 1);
        refused("a WALL that is there", "tent 8;wall 7;wall 7;", 2);
        refused("WAY too large", "tent 8;odds 8 1;", 1);
        refused("ODDS too large", "tent 8;odds 7 21;", 1);
        refused("PEG too large", "tent 8;gone 8;", 1);
        refused("PEG too large for this tent", "tent 2;gone 2;", 1);
        refused("PEG far too large", "tent 8;peg 99 0 0 0;", 1);
        refused("KIND far too large", "tent 8;peg 0 99 0 0;", 1);
        refused("DEPTH far too large", "tent 8;peg 0 0 99 0;", 1);
        refused("GROUND far too large", "tent 8;peg 0 0 0 99;", 1);
        refused("WET far too large", "tent 8;wet 99;", 1);
        refused("WAY far too large", "tent 8;wall 99;", 1);
        refused("WAY far too large", "tent 8;odds 99 1;", 1);
        refused("ODDS far too large", "tent 8;odds 7 99;", 1);
        refused("PEG far too large", "tent 8;gone 99;", 1);
        refused("a PEG that is GONE", "tent 8;gone 7;gone 7;", 2);
    }

    private static void takenItems() {
        reads("n the least", "tent 02;", 1);
        reads("n the most", "tent 8;", 1);
        reads("PEG the most", "tent 8;peg 7 0 0 0;", 2);
        reads("PEG the most of this tent", "tent 2;peg 1 0 0 0;", 2);
        reads("KIND the most", "tent 8;peg 0 5 0 0;", 2);
        reads("DEPTH the most", "tent 8;peg 0 0 9 0;", 2);
        reads("GROUND the most", "tent 8;peg 0 0 0 9;", 2);
        reads("WET the most", "tent 8;wet 9;", 2);
        reads("WAY the most", "tent 8;wall 7;", 2);
        reads("WAY the most", "tent 8;odds 7 1;", 2);
        reads("ODDS the most", "tent 8;odds 0 20;", 2);
        reads("PEG the most", "tent 8;gone 7;", 2);
        reads("all GONE", "tent 2;gone 0;gone 1;", 3);
        reads("a WALL that was there ahead of it all", "tent 8;wall 2;", 2);
        reads("a PEG that was GONE ahead of it all", "tent 5;gone 4;", 2);
        reads("the same told twice", "tent 8;wet 1;wet 1;odds 0 1;odds 0 1;peg 0 0 0 0;peg 0 0 0 0;", 7);
    }

    private static void anew(String sentence, String text, long want, Call call) {
        answers("9: " + sentence, want, x -> {
            muchToldAnd(x, text);
            x.read();
        }, call);
    }

    private static void toldAnew() {
        anew("told anew: n", "tent 2;", 2, x -> x.count(0));
        anew("told anew: all STAND", "tent 5;", 5, x -> x.count(1));
        anew("told anew: WET", "tent 5;", 0, x -> x.count(2));
        anew("told anew: WALLS", "tent 5;", 0, x -> x.count(3));
        anew("told anew: ODDS", "tent 5;", 1, x -> x.odds(6, 1));
        anew("told anew: KIND", "tent 5;", 0, x -> x.of(0, 0));
        anew("told anew: DEPTH", "tent 5;", 5, x -> x.of(0, 1));
        anew("told anew: GROUND", "tent 5;", 4, x -> x.of(0, 2));
        anew("nothing may be undone behind it", "tent 5;", 0, x -> x.count(4));
        anew("nothing may be undone behind it, a PEG GONE", "tent 5;gone 4;", NO, x -> x.undo());
        anew("a PEG GONE", "tent 8;gone 7;", 0, x -> x.of(7, 4));
        anew("ODDS of the last WAY", "tent 8;odds 7 20;", 20, x -> x.odds(7, 1));
        anew("ODDS of 0", "tent 8;odds 0 0;", 0, x -> x.odds(0, 1));
        anew("WET", "tent 8;wet 9;", 9, x -> x.count(2));
        anew("a WALL", "tent 8;wall 7;", 128, x -> x.count(3));
        anew("in their order, the last holds", "tent 8;wet 1;wet 9;", 9, x -> x.count(2));
        anew("a PEG told when GONE", "tent 8;gone 7;peg 7 5 9 8;", 5980,
            x -> 1000 * x.of(7, 0) + 100 * x.of(7, 1) + 10 * x.of(7, 2) + x.of(7, 4));
        for (int k = 0; k < 8; k++) {
            int peg = k;
            anew("KIND, DEPTH, GROUND of PEG " + peg, "tent 8;peg " + peg + " 4 9 8;", 498,
                x -> 100 * x.of(peg, 0) + 10 * x.of(peg, 1) + x.of(peg, 2));
        }
        anew("a read of less behind one of more, WALLS", "tent 8;wall 7;", 0, x -> {
            x.clear();
            type(x, "tent 8;");
            x.read();
            return x.count(3);
        });
        anew("THE TEXT stays", "tent 8;wet 1;", 13, x -> x.count(5));
        anew("THE TEXT stays, to be read again", "tent 8;wet 1;", 2, x -> then(x.wet(2), x.read()));
        anew("THE FRACTION stays", "tent 8;", 1010, Edges::fraction);
        anew("IMAGES stay", "tent 8;", 1, x -> x.from(1));
        anew("STATUS stays", "tent 8;", 11, x -> 10 * x.status(0) + x.status(1));
    }

    private static void leftAsItWas() {
        answers("9: ITEMS are not refused calls, BAD", 1, x -> {
            muchToldAnd(x, "tent 8;wet 10;");
            x.read();
        }, x -> x.status(0));
        answers("9: ITEMS are not refused calls, NO", 1, x -> {
            muchToldAnd(x, "tent 8;wall 1;wall 1;");
            x.read();
        }, x -> x.status(1));
        answers("9: a FAULT is none of the next one", 1, x -> {
            type(x, "tent 8;wet");
            x.read();
            x.clear();
            type(x, "tent 8;");
        }, x -> x.read());
        answers("9: an ITEM refused is none of the next one", 1, x -> {
            type(x, "tent 8;wet 10;");
            x.read();
            x.clear();
            type(x, "tent 8;");
        }, x -> x.read());
        answers("9: an ITEM refused leaves what may be undone", 1, x -> {
            x.stand(0, false);
            type(x, "tent 8;wet 10;");
            x.read();
        }, x -> x.undo());
        answers("9: a FAULT leaves what may be undone", 1, x -> {
            x.stand(0, false);
            type(x, "tent 8;wet");
            x.read();
        }, x -> x.undo());
    }
}
