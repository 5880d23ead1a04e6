/** Pegs in a wind: a tent whose guys stand round it. README.md says how it is used. */
public final class TentPegs {
    public static final int NONE = -1, BAD = -2, NO = -3, FULL = -4;

    private static final int NOT_SO_MANY = -5;
    private static final int BAD_ASKED = -10;
    private static final int BAD_PART = -100000;
    private static final int FAULT_AT = -10;
    private static final int REFUSED_AT = -1000;

    private static final int WAYS = 8;
    private static final int LEAST_PEGS = 2;
    private static final int MOST_PEGS = 8;
    private static final int MOST_TOLD = 9;
    private static final int FIRST_DEPTH = 5;
    private static final int FIRST_GROUND = 4;
    private static final int MOST_ODDS = 20;
    private static final int STRONGEST = 60;
    private static final int MOST_UNDONE = 10;
    private static final int LONGEST_TEXT = 150;
    private static final int MOST_EVERY = 4;
    private static final int MOST_PENCE = 20;
    private static final int LONGEST_NIGHT = 60;
    private static final int LAST_SEED = 999999;

    private static final int PLAIN = 0;
    private static final int DOUBLED = 1;
    private static final int BURIED = 2;
    private static final int LOOSENED = 3;
    private static final int DRAWN = 4;
    private static final int ZIPPED = 5;

    private final Field field = new Field();
    private final Gale gale = new Gale(field);
    private final Plans plans = new Plans(field, gale);
    private final byte[] text = new byte[LONGEST_TEXT];
    private final Reader reader = new Reader(text);
    private final Field[] images = {new Field(), new Field()};
    private final boolean[] kept = new boolean[2];
    private int typed = 0;
    private int above = 0;
    private int below = 1;
    private int bads = 0;
    private int noes = 0;
    private int fulls = 0;

    public TentPegs() {
    }

    // ---- a field

    public int tent(int n) {
        if (!Field.mayPitch(n)) {
            return bad(BAD);
        }
        int was = field.pegs;
        field.pitch(n);
        return was;
    }

    public int peg(int peg, int kind, int depth, int ground) {
        if (!field.mayDrive(peg, kind, depth, ground)) {
            return bad(BAD);
        }
        int was = field.kinds[peg];
        field.drive(peg, kind, depth, ground);
        return was;
    }

    public int wet(int n) {
        if (!Field.mayWet(n)) {
            return bad(BAD);
        }
        int was = field.wetness;
        field.wetness = n;
        return was;
    }

    public int wall(int way, boolean is) {
        if (!isWay(way)) {
            return bad(BAD);
        }
        if (field.hasWall(way) == is) {
            return no();
        }
        field.putWall(way, is);
        return 1;
    }

    public int odds(int way, int n) {
        if (!Field.mayBet(way, n)) {
            return bad(BAD);
        }
        int was = field.chances[way];
        field.chances[way] = n;
        return was;
    }

    public int type(int c) {
        if (!within(c, 0, 127)) {
            return bad(BAD);
        }
        if (typed >= LONGEST_TEXT) {
            return full();
        }
        text[typed] = (byte) c;
        typed++;
        return typed;
    }

    public int clear() {
        int had = typed;
        typed = 0;
        return had;
    }

    public int read() {
        reader.goThrough(typed);
        if (reader.fault != NONE) {
            return FAULT_AT - reader.fault;
        }
        if (reader.refused != NONE) {
            return REFUSED_AT - reader.refused;
        }
        field.become(reader.draft);
        return reader.items;
    }

    // ---- gusts

    public int gust(int way, int strength) {
        if (!isGust(way, strength)) {
            return bad(BAD);
        }
        if (isLost(field.standing)) {
            return no();
        }
        field.remember();
        asItIs().blow(way, strength);
        field.standing = gale.standing;
        return gale.gone;
    }

    public int stand(int peg, boolean is) {
        if (!field.hasPeg(peg)) {
            return bad(BAD);
        }
        if (has(field.standing, peg) == is) {
            return no();
        }
        field.remember();
        field.standing = with(field.standing, peg, is);
        return 1;
    }

    public int undo() {
        return field.goBack() ? 1 : no();
    }

    public int of(int peg, int what) {
        if (!field.hasPeg(peg)) {
            return bad(BAD);
        }
        switch (what) {
            case 0: return field.kinds[peg];
            case 1: return field.depths[peg];
            case 2: return field.grounds[peg];
            case 3: return asItIs().holds(peg);
            case 4: return has(field.standing, peg) ? 1 : 0;
            case 5: return asItIs().wayOf(peg);
            default: return bad(BAD);
        }
    }

    public int pull(int peg, int way, int strength) {
        if (!field.hasPeg(peg) || !isGust(way, strength)) {
            return bad(BAD);
        }
        return asItIs().pullOn(peg, way, strength);
    }

    // ---- what goes

    public int first(int way, int strength, int i) {
        if (!isGust(way, strength) || i < NONE) {
            return bad(BAD_ASKED);
        }
        asItIs().blow(way, strength);
        if (i == NONE) {
            return gale.gone;
        }
        return i < gale.gone ? gale.went[i] : NOT_SO_MANY;
    }

    public int lost(int peg, int way, int strength) {
        if (!field.hasPeg(peg) || !isGust(way, strength)) {
            return bad(BAD);
        }
        asItIs();
        gale.standing = with(gale.standing, peg, false);
        gale.blow(way, strength);
        return gale.standing == 0 ? 1 : 0;
    }

    public int bears(int way) {
        if (way == NONE) {
            return asItIs().weakestWay();
        }
        return isWay(way) ? asItIs().borneBy(way) : bad(BAD_ASKED);
    }

    public int twofold(int m, int i) {
        if (!within(m, 1, 2) || i < NONE) {
            return bad(BAD_ASKED);
        }
        if (Integer.bitCount(field.standing) < m) {
            return NONE;
        }
        if (i >= m) {
            return NOT_SO_MANY;
        }
        asItIs();
        int chosen = plans.bestToDouble(m);
        gale.doubled = chosen;
        return i == NONE ? gale.leastBorne() : Plans.memberOf(chosen, i);
    }

    public int strokes(int way, int strength, int peg) {
        if (!isGust(way, strength) || peg != NONE && !field.hasPeg(peg)) {
            return bad(BAD_ASKED);
        }
        asItIs();
        int sum = plans.strokesFor(way, strength);
        if (sum == NONE || peg == NONE) {
            return sum;
        }
        return plans.deepEnough(peg, field.depths[peg], gale.pullOn(peg, way, strength));
    }

    public int chance(int strength) {
        if (!isStrength(strength)) {
            return bad(BAD);
        }
        int all = field.allChances();
        if (all == 0) {
            return no();
        }
        keepFraction(asItIs().harmless(strength), all);
        return 1;
    }

    public int turn(int strength) {
        if (!isStrength(strength)) {
            return bad(BAD);
        }
        int all = field.allChances();
        if (all == 0) {
            return no();
        }
        asItIs();
        int best = plans.bestTurn(strength);
        gale.turned = best;
        keepFraction(gale.harmless(strength), all);
        return best;
    }

    public int worth(int way, int strength) {
        if (!isGust(way, strength)) {
            return bad(BAD);
        }
        int all = field.allChances();
        if (all == 0) {
            return no();
        }
        int without = asItIs().harmless(strength);
        gale.walls = with(gale.walls, way, true);
        keepFraction(gale.harmless(strength) - without, all);
        return 1;
    }

    public int setUp(int c, int way, int strength, int i) {
        if (!within(c, 1, MOST_EVERY) || !isGust(way, strength) || i < NONE) {
            return bad(BAD_ASKED);
        }
        asItIs();
        plans.countOrders(c, way, strength);
        int orders = plans.ordersFrom(0);
        if (i == NONE) {
            return orders;
        }
        if (orders == 0) {
            return NONE;
        }
        return i < field.pegs ? plans.inFirstOrder(i) : NOT_SO_MANY;
    }

    public int morning(int found, int what) {
        boolean allStoodBefore = found >= 0 && (found & ~field.standing) == 0;
        if (!allStoodBefore || !within(what, 0, 1)) {
            return bad(BAD_ASKED);
        }
        asItIs();
        plans.lookBack(found);
        return what == 0 ? plans.explained : plans.firstExplained;
    }

    public int lent(int way, int strength, int what) {
        if (!isGust(way, strength) || !within(what, 0, 2)) {
            return bad(BAD_ASKED);
        }
        asItIs();
        plans.seeNeeds(way, strength);
        switch (what) {
            case 0: return plans.inchesTooMany();
            case 1: return plans.inchesTooFew();
            default: return plans.balance();
        }
    }

    public int pence(int way, int strength, int p) {
        if (!isGust(way, strength) || !within(p, 1, MOST_PENCE)) {
            return bad(BAD);
        }
        int pounds = Math.max(1, asItIs().mostPull(way, strength));
        return pounds * p * Integer.bitCount(field.standing);
    }

    // ---- nights

    public int night(int m, int s, int seed, int what) {
        if (!isNight(m, s, seed) || !within(what, 0, 1)) {
            return bad(BAD_ASKED);
        }
        asItIs();
        int lostBehind = plans.passNight(m, s, seed);
        return what == 0 ? lostBehind : Integer.bitCount(gale.standing);
    }

    public int wake(int m, int s, int seed) {
        if (!isNight(m, s, seed)) {
            return bad(BAD_ASKED);
        }
        asItIs();
        plans.passNight(m, s, seed);
        // Who gets up behind the last gust has all of them standing, and nothing is later or better.
        return Integer.bitCount(gale.standing) < field.pegs ? m : NONE;
    }

    // ---- what there is

    public long part(int what) {
        switch (what) {
            case 0: return above;
            case 1: return below;
            default: return bad(BAD_PART);
        }
    }

    public int image(int i) {
        if (!within(i, 0, images.length - 1)) {
            return bad(BAD);
        }
        images[i].become(field);
        kept[i] = true;
        return 1;
    }

    public int from(int i) {
        if (!within(i, 0, images.length - 1)) {
            return bad(BAD);
        }
        if (!kept[i]) {
            return no();
        }
        field.become(images[i]);
        return 1;
    }

    public int status(int what) {
        switch (what) {
            case 0: return bads;
            case 1: return noes;
            case 2: return fulls;
            default: return bad(NONE);
        }
    }

    public int count(int what) {
        return within(what, 0, 5) ? counted(what) : bad(BAD);
    }

    public long digest() {
        long h = 883;
        for (int what = 0; what <= 5; what++) {
            h = 31 * h + counted(what);
        }
        for (int k = 0; k < field.pegs; k++) {
            h = 31 * h + field.kinds[k];
            h = 31 * h + field.depths[k];
            h = 31 * h + field.grounds[k];
            h = 31 * h + (has(field.standing, k) ? 1 : 0);
        }
        for (int way = 0; way < WAYS; way++) {
            h = 31 * h + field.chances[way];
        }
        h = 31 * h + above;
        return 31 * h + below;
    }

    // ---- behind the face

    private int counted(int what) {
        switch (what) {
            case 0: return field.pegs;
            case 1: return Integer.bitCount(field.standing);
            case 2: return field.wetness;
            case 3: return field.walls;
            case 4: return field.undoable;
            default: return typed;
        }
    }

    private Gale asItIs() {
        gale.overTheField();
        return gale;
    }

    private void keepFraction(int part, int whole) {
        above = part;
        below = whole;
        for (int d = whole; d > 1; d--) {
            if (part % d == 0 && whole % d == 0) {
                above = part / d;
                below = whole / d;
                return;
            }
        }
    }

    private int bad(int answer) {
        bads++;
        return answer;
    }

    private int no() {
        noes++;
        return NO;
    }

    private int full() {
        fulls++;
        return FULL;
    }

    private static boolean within(int x, int least, int most) {
        return least <= x && x <= most;
    }

    private static boolean isWay(int way) {
        return within(way, 0, WAYS - 1);
    }

    private static boolean isStrength(int strength) {
        return within(strength, 0, STRONGEST);
    }

    private static boolean isGust(int way, int strength) {
        return isWay(way) && isStrength(strength);
    }

    private static boolean isNight(int m, int s, int seed) {
        return within(m, 0, LONGEST_NIGHT) && isStrength(s) && within(seed, 0, LAST_SEED);
    }

    private static boolean isLost(int standing) {
        return Integer.bitCount(standing) < 2;
    }

    private static boolean has(int bits, int i) {
        return (bits >> i & 1) == 1;
    }

    private static int with(int bits, int i, boolean is) {
        return is ? bits | 1 << i : bits & ~(1 << i);
    }

    /** What is told of a tent, which pegs stand, what may be undone: all that an image keeps. */
    private static final class Field {
        int pegs;
        int wetness;
        int walls;
        int standing;
        int undoable;
        final int[] kinds = new int[MOST_PEGS];
        final int[] depths = new int[MOST_PEGS];
        final int[] grounds = new int[MOST_PEGS];
        final int[] chances = new int[WAYS];
        final int[] stoodBefore = new int[MOST_UNDONE];

        Field() {
            pitch(MOST_PEGS);
        }

        static boolean mayPitch(int n) {
            return within(n, LEAST_PEGS, MOST_PEGS);
        }

        void pitch(int n) {
            pegs = n;
            wetness = 0;
            walls = 0;
            standing = (1 << n) - 1;
            undoable = 0;
            for (int k = 0; k < MOST_PEGS; k++) {
                drive(k, PLAIN, FIRST_DEPTH, FIRST_GROUND);
            }
            for (int way = 0; way < WAYS; way++) {
                chances[way] = 1;
            }
        }

        boolean hasPeg(int peg) {
            return within(peg, 0, pegs - 1);
        }

        boolean mayDrive(int peg, int kind, int depth, int ground) {
            return hasPeg(peg) && within(kind, PLAIN, ZIPPED)
                && within(depth, 0, MOST_TOLD) && within(ground, 0, MOST_TOLD);
        }

        void drive(int peg, int kind, int depth, int ground) {
            kinds[peg] = kind;
            depths[peg] = depth;
            grounds[peg] = ground;
        }

        static boolean mayWet(int n) {
            return within(n, 0, MOST_TOLD);
        }

        boolean hasWall(int way) {
            return has(walls, way);
        }

        void putWall(int way, boolean is) {
            walls = with(walls, way, is);
        }

        static boolean mayBet(int way, int n) {
            return isWay(way) && within(n, 0, MOST_ODDS);
        }

        int allChances() {
            int sum = 0;
            for (int way = 0; way < WAYS; way++) {
                sum += chances[way];
            }
            return sum;
        }

        void remember() {
            if (undoable == MOST_UNDONE) {
                System.arraycopy(stoodBefore, 1, stoodBefore, 0, MOST_UNDONE - 1);
                undoable--;
            }
            stoodBefore[undoable] = standing;
            undoable++;
        }

        boolean goBack() {
            if (undoable == 0) {
                return false;
            }
            undoable--;
            standing = stoodBefore[undoable];
            return true;
        }

        void become(Field other) {
            pegs = other.pegs;
            wetness = other.wetness;
            walls = other.walls;
            standing = other.standing;
            undoable = other.undoable;
            System.arraycopy(other.kinds, 0, kinds, 0, MOST_PEGS);
            System.arraycopy(other.depths, 0, depths, 0, MOST_PEGS);
            System.arraycopy(other.grounds, 0, grounds, 0, MOST_PEGS);
            System.arraycopy(other.chances, 0, chances, 0, WAYS);
            System.arraycopy(other.stoodBefore, 0, stoodBefore, 0, MOST_UNDONE);
        }
    }

    /** Gusts over a field, which stays as it is: who stands, walls and the turn are supposed here. */
    private static final class Gale {
        private final Field field;
        private final int[] pulls = new int[MOST_PEGS];
        final int[] went = new int[MOST_PEGS];
        int gone = 0;
        int standing = 0;
        int walls = 0;
        int turned = 0;
        int doubled = 0;

        Gale(Field field) {
            this.field = field;
        }

        void overTheField() {
            standing = field.standing;
            walls = field.walls;
            turned = 0;
            doubled = 0;
        }

        int wayOf(int peg) {
            return (peg * WAYS / field.pegs + turned) % WAYS;
        }

        int holds(int peg) {
            return holdsAt(peg, field.depths[peg]);
        }

        int holdsAt(int peg, int depth) {
            int plain = depth * field.grounds[peg];
            int loosened = Math.max(0, plain - 2 * field.wetness);
            switch (has(doubled, peg) ? DOUBLED : field.kinds[peg]) {
                case DOUBLED: return plain + plain / 2;
                case BURIED: return plain + 10;
                case LOOSENED: return loosened;
                case DRAWN: return (loosened + 1) / 2;
                case ZIPPED: return plain + plain / 2 + 3 * standingBeside(peg);
                default: return plain;
            }
        }

        /** Of two pegs the other one is beside it twice: it counts as two. */
        private int standingBeside(int peg) {
            return (standing >> aheadOf(peg) & 1) + (standing >> behind(peg) & 1);
        }

        private int behind(int peg) {
            return peg + 1 < field.pegs ? peg + 1 : 0;
        }

        private int aheadOf(int peg) {
            return peg > 0 ? peg - 1 : field.pegs - 1;
        }

        private int behindWalls(int way, int strength) {
            if (has(walls, way)) {
                return strength / 2;
            }
            boolean isBeside = has(walls, (way + 1) % WAYS) || has(walls, (way + WAYS - 1) % WAYS);
            return isBeside ? strength + strength / 4 : strength;
        }

        /** How many fourths of a gust's strength the peg gets. */
        private int shareOf(int peg, int way) {
            int off = Math.abs(wayOf(peg) - way);
            return 4 - Math.min(off, WAYS - off);
        }

        int pullOn(int peg, int way, int strength) {
            if (!has(standing, peg)) {
                return 0;
            }
            return behindWalls(way, strength) * shareOf(peg, way) / 4;
        }

        int mostPull(int way, int strength) {
            int most = 0;
            for (int k = 0; k < field.pegs; k++) {
                most = Math.max(most, pullOn(k, way, strength));
            }
            return most;
        }

        boolean takesNone(int way, int strength) {
            for (int k = 0; k < field.pegs; k++) {
                if (has(standing, k) && pullOn(k, way, strength) > holds(k)) {
                    return false;
                }
            }
            return true;
        }

        void blow(int way, int strength) {
            gone = 0;
            for (int k = 0; k < field.pegs; k++) {
                pulls[k] = pullOn(k, way, strength);
            }
            for (int round = 0; round < field.pegs; round++) {
                int peg = nextToGo();
                if (peg == NONE) {
                    return;
                }
                standing = with(standing, peg, false);
                went[gone] = peg;
                gone++;
                handOn(peg);
            }
        }

        private int nextToGo() {
            int next = NONE;
            int most = 0;
            for (int k = 0; k < field.pegs; k++) {
                int tooMuch = has(standing, k) ? pulls[k] - holds(k) : 0;
                if (tooMuch > most) {
                    next = k;
                    most = tooMuch;
                }
            }
            return next;
        }

        private void handOn(int peg) {
            if (standing == 0) {
                return;
            }
            int half = (pulls[peg] + 1) / 2;
            pulls[standingBehind(peg)] += half;
            pulls[standingAheadOf(peg)] += pulls[peg] - half;
        }

        private int standingBehind(int peg) {
            int at = behind(peg);
            for (int step = 0; step < field.pegs && !has(standing, at); step++) {
                at = behind(at);
            }
            return at;
        }

        private int standingAheadOf(int peg) {
            int at = aheadOf(peg);
            for (int step = 0; step < field.pegs && !has(standing, at); step++) {
                at = aheadOf(at);
            }
            return at;
        }

        /** A pull of share fourths, cut, is no more than what is held up to (4 held + 3) / share. */
        int borneBy(int way) {
            int most = 2 * STRONGEST;
            for (int k = 0; k < field.pegs; k++) {
                int share = shareOf(k, way);
                if (has(standing, k) && share > 0) {
                    most = Math.min(most, (4 * holds(k) + 3) / share);
                }
            }
            int strength = 0;
            while (strength < STRONGEST && behindWalls(way, strength + 1) <= most) {
                strength++;
            }
            return strength;
        }

        int leastBorne() {
            int least = STRONGEST;
            for (int way = 0; way < WAYS; way++) {
                least = Math.min(least, borneBy(way));
            }
            return least;
        }

        int weakestWay() {
            int least = leastBorne();
            for (int way = 0; way < WAYS; way++) {
                if (borneBy(way) == least) {
                    return way;
                }
            }
            return NONE;
        }

        /** The odds of all the ways by which a gust of that strength takes none. */
        int harmless(int strength) {
            int sum = 0;
            for (int way = 0; way < WAYS; way++) {
                if (takesNone(way, strength)) {
                    sum += field.chances[way];
                }
            }
            return sum;
        }
    }

    /** What is asked of many gusts; each question starts from a gale over the field as it is. */
    private static final class Plans {
        private static final int NO_DEPTH = 10;
        private static final long FACTOR = 1103515245L;
        private static final long MORE = 12345L;
        private static final long MODULUS = 2147483648L;
        private static final long CUT = 65536L;

        private final Field field;
        private final Gale gale;
        private final int[] orders = new int[1 << MOST_PEGS];
        private final int[] needs = new int[MOST_PEGS];
        int explained = 0;
        int firstExplained = NONE;

        Plans(Field field, Gale gale) {
            this.field = field;
            this.gale = gale;
        }

        static int memberOf(int bits, int i) {
            int left = i;
            for (int k = 0; k < MOST_PEGS; k++) {
                if (has(bits, k)) {
                    if (left == 0) {
                        return k;
                    }
                    left--;
                }
            }
            return NONE;
        }

        /** The one peg, or the two, as bits; those that stand must be so many. */
        int bestToDouble(int m) {
            int best = 0;
            int most = NONE;
            for (int k = 0; k < field.pegs; k++) {
                for (int j = k; j < field.pegs; j++) {
                    int chosen = 1 << k | 1 << j;
                    if (Integer.bitCount(chosen) == m && (chosen & ~gale.standing) == 0) {
                        gale.doubled = chosen;
                        int borne = gale.leastBorne();
                        best = borne > most ? chosen : best;
                        most = Math.max(most, borne);
                    }
                }
            }
            return best;
        }

        /** The least depth from the one told on by which a peg holds a pull; NO_DEPTH: none does. */
        int deepEnough(int peg, int from, int pull) {
            for (int depth = from; depth <= MOST_TOLD; depth++) {
                if (gale.holdsAt(peg, depth) >= pull) {
                    return depth;
                }
            }
            return NO_DEPTH;
        }

        int strokesFor(int way, int strength) {
            int sum = 0;
            for (int k = 0; k < field.pegs; k++) {
                int depth = deepEnough(k, field.depths[k], gale.pullOn(k, way, strength));
                if (depth == NO_DEPTH) {
                    return NONE;
                }
                sum += depth - field.depths[k];
            }
            return sum;
        }

        int bestTurn(int strength) {
            int best = 0;
            int most = NONE;
            for (int r = 0; r < WAYS; r++) {
                gale.turned = r;
                int harmless = gale.harmless(strength);
                if (harmless > most) {
                    best = r;
                    most = harmless;
                }
            }
            return best;
        }

        /** In how many orders the rest may be driven once just these stand, for all sets of them. */
        void countOrders(int c, int way, int strength) {
            int all = (1 << field.pegs) - 1;
            for (int driven = all; driven >= 0; driven--) {
                int size = Integer.bitCount(driven);
                boolean isBlown = size > 0 && size % c == 0 || driven == all;
                gale.standing = driven;
                if (isBlown && (size == 1 || !gale.takesNone(way, strength))) {
                    orders[driven] = 0;
                } else {
                    orders[driven] = driven == all ? 1 : ordersWithOneMore(driven);
                }
            }
        }

        private int ordersWithOneMore(int driven) {
            int sum = 0;
            for (int k = 0; k < field.pegs; k++) {
                if (!has(driven, k)) {
                    sum += orders[driven | 1 << k];
                }
            }
            return sum;
        }

        int ordersFrom(int driven) {
            return orders[driven];
        }

        int inFirstOrder(int i) {
            int driven = 0;
            int last = NONE;
            for (int step = 0; step <= i && step < field.pegs; step++) {
                last = leastThatMayFollow(driven);
                if (last == NONE) {
                    return NONE;
                }
                driven |= 1 << last;
            }
            return last;
        }

        private int leastThatMayFollow(int driven) {
            for (int k = 0; k < field.pegs; k++) {
                if (!has(driven, k) && orders[driven | 1 << k] > 0) {
                    return k;
                }
            }
            return NONE;
        }

        void lookBack(int found) {
            int left = field.standing & ~found;
            explained = 0;
            firstExplained = NONE;
            for (int way = 0; way < WAYS; way++) {
                for (int strength = 0; strength <= STRONGEST; strength++) {
                    gale.standing = field.standing;
                    gale.blow(way, strength);
                    if (gale.standing == left) {
                        firstExplained = explained == 0 ? 100 * way + strength : firstExplained;
                        explained++;
                    }
                }
            }
        }

        /** The needs of those that stand, for the three questions below; the others need nothing. */
        void seeNeeds(int way, int strength) {
            for (int k = 0; k < field.pegs; k++) {
                needs[k] = deepEnough(k, 0, gale.pullOn(k, way, strength));
            }
        }

        int inchesTooMany() {
            int sum = 0;
            for (int k = 0; k < field.pegs; k++) {
                sum += has(field.standing, k) ? Math.max(0, field.depths[k] - needs[k]) : 0;
            }
            return sum;
        }

        int inchesTooFew() {
            int sum = 0;
            for (int k = 0; k < field.pegs; k++) {
                sum += has(field.standing, k) ? Math.max(0, needs[k] - field.depths[k]) : 0;
            }
            return sum;
        }

        /** Those that need least are served first: so the inches reach the most of them. */
        int balance() {
            int inches = inchesOfAll();
            int served = 0;
            for (int need = 0; need <= MOST_TOLD; need++) {
                for (int k = 0; k < field.pegs; k++) {
                    if (has(field.standing, k) && needs[k] == need && inches >= need) {
                        inches -= need;
                        served++;
                    }
                }
            }
            return served;
        }

        private int inchesOfAll() {
            int sum = 0;
            for (int k = 0; k < field.pegs; k++) {
                sum += has(field.standing, k) ? field.depths[k] : 0;
            }
            return sum;
        }

        /** Behind how many gusts the tent is lost; the gale keeps who stand at last. */
        int passNight(int m, int s, int seed) {
            int lostBehind = isLost(gale.standing) ? 0 : NONE;
            long x = seed;
            for (int i = 1; i <= m; i++) {
                x = nextOf(x);
                int way = (int) (x / CUT % WAYS);
                x = nextOf(x);
                gale.blow(way, (int) (x / CUT % (s + 1)));
                if (lostBehind == NONE && isLost(gale.standing)) {
                    lostBehind = i;
                }
            }
            return lostBehind;
        }

        private static long nextOf(long x) {
            return (x * FACTOR + MORE) % MODULUS;
        }
    }

    /** Reads a text into a draft of a field: items of a word and numbers, each ended by a ; */
    private static final class Reader {
        private static final int OTHER = 0;
        private static final int END = 1;
        private static final int NUMBER = 2;
        private static final int SEMICOLON = 3;
        private static final int TENT = 4;
        private static final int PEG = 5;
        private static final int WET = 6;
        private static final int WALL = 7;
        private static final int ODDS = 8;
        private static final int GONE = 9;

        private final byte[] text;
        private final int[] numbers = new int[4];
        final Field draft = new Field();
        private int length = 0;
        private int at = 0;
        private int start = 0;
        private int token = END;
        private int number = 0;
        int items = 0;
        int fault = NONE;
        int refused = NONE;

        Reader(byte[] text) {
            this.text = text;
        }

        /** What is found: the fault, or the first item refused, or else the draft and its items. */
        void goThrough(int typed) {
            begin(typed);
            step();
            // An item takes a byte at least, so the text has fewer of them than bytes.
            while (items == 0 || token != END && items < LONGEST_TEXT) {
                int word = token;
                if (!isItem(word)) {
                    fault = start;
                    return;
                }
                if (refused == NONE && !tell(word)) {
                    refused = items;
                }
                items++;
                step();
            }
        }

        private void begin(int typed) {
            length = Math.min(typed, text.length);
            at = 0;
            items = 0;
            fault = NONE;
            refused = NONE;
        }

        private boolean isItem(int word) {
            boolean mayStand = items == 0 ? word == TENT : word > TENT;
            if (!mayStand) {
                return false;
            }
            for (int i = 0; i < numbersOf(word); i++) {
                step();
                if (token != NUMBER) {
                    return false;
                }
                numbers[i] = number;
            }
            step();
            return token == SEMICOLON;
        }

        private static int numbersOf(int word) {
            switch (word) {
                case PEG: return 4;
                case ODDS: return 2;
                default: return 1;
            }
        }

        /** Whether the item is not refused, as its call would be. */
        private boolean tell(int word) {
            int n = numbers[0];
            switch (word) {
                case TENT: return tellTent(n);
                case PEG: return tellPeg(n, numbers[1], numbers[2], numbers[3]);
                case WET: return tellWet(n);
                case WALL: return tellWall(n);
                case ODDS: return tellOdds(n, numbers[1]);
                default: return tellGone(n);
            }
        }

        private boolean tellTent(int n) {
            if (!Field.mayPitch(n)) {
                return false;
            }
            draft.pitch(n);
            return true;
        }

        private boolean tellPeg(int peg, int kind, int depth, int ground) {
            if (!draft.mayDrive(peg, kind, depth, ground)) {
                return false;
            }
            draft.drive(peg, kind, depth, ground);
            return true;
        }

        private boolean tellWet(int n) {
            if (!Field.mayWet(n)) {
                return false;
            }
            draft.wetness = n;
            return true;
        }

        private boolean tellWall(int way) {
            if (!isWay(way) || draft.hasWall(way)) {
                return false;
            }
            draft.putWall(way, true);
            return true;
        }

        private boolean tellOdds(int way, int n) {
            if (!Field.mayBet(way, n)) {
                return false;
            }
            draft.chances[way] = n;
            return true;
        }

        private boolean tellGone(int peg) {
            if (!draft.hasPeg(peg) || !has(draft.standing, peg)) {
                return false;
            }
            draft.standing = with(draft.standing, peg, false);
            return true;
        }

        private void step() {
            skipBlanks();
            start = at;
            if (at >= length) {
                token = END;
            } else if (isLetter(text[at])) {
                stepOverWord();
            } else if (isFigure(text[at])) {
                stepOverNumber();
            } else {
                token = text[at] == ';' ? SEMICOLON : OTHER;
                at++;
            }
        }

        private void skipBlanks() {
            while (at < length && text[at] == ' ') {
                at++;
            }
        }

        private void stepOverWord() {
            while (at < length && isLetter(text[at])) {
                at++;
            }
            token = spells("tent") ? TENT
                : spells("peg") ? PEG
                : spells("wet") ? WET
                : spells("wall") ? WALL
                : spells("odds") ? ODDS
                : spells("gone") ? GONE : OTHER;
        }

        private void stepOverNumber() {
            number = 0;
            while (at < length && isFigure(text[at])) {
                number = (10 * number + text[at] - '0') % 100;
                at++;
            }
            token = at - start <= 2 ? NUMBER : OTHER;
        }

        private static boolean isLetter(byte c) {
            return within(c, 'a', 'z');
        }

        private static boolean isFigure(byte c) {
            return within(c, '0', '9');
        }

        private boolean spells(String word) {
            if (word.length() != at - start) {
                return false;
            }
            for (int i = 0; i < word.length(); i++) {
                if (text[start + i] != word.charAt(i)) {
                    return false;
                }
            }
            return true;
        }
    }
}
