import java.util.Arrays;

/**
 * A court that judges which TERMS must be ONE if certain SAYINGS hold. The document that this
 * class keeps to is DOC.md; words in capitals here are its words.
 */
public final class EqualCourt {
    public static final int NONE = -1;

    private static final int TERMS = 120;
    private static final int SAYINGS = 100;
    private static final int LAWS = 10;
    private static final int STEPS = 100;
    private static final int LEVELS = 10;
    private static final int NAMES = 100;
    private static final int HEADS = 20;
    private static final int PARTS = 3;
    private static final int FIRST_HOLE = 90;
    private static final int HOLES = 3;
    private static final int MOST_TRIALS = 500;
    private static final int MOST_FOLLOWED = 50;
    private static final long NO_WORLD = 1L << 40;

    // A power of two, since a slot is the top bits of a product.
    private static final int BUCKETS = 128;
    private static final int SLOT_SHIFT = 25;
    private static final int SPREAD = 0x9E3779B1;
    // Far above what any loop that is bounded by it can need.
    private static final int MANY = 1000000;

    private static final int NAME = 0;
    private static final int NUMBER = 1;
    private static final int BUILT = 2;
    private static final int ROW = 3;
    private static final int EVEN = 4;

    private static final int FINE = 0;
    private static final int BEYOND = 1;
    private static final int KIND = 2;
    private static final int FULL = 3;
    private static final int CLASH = 4;
    private static final int GONE = 5;
    private static final int OPEN = 6;
    private static final int SPENT = 7;
    private static final int NEGATIVE = 8;
    private static final int MISSING = 9;

    private static final int BY_SAYING = 0;
    private static final int BY_ITSELF = 1;
    private static final int BY_TURNING = 2;
    private static final int BY_CHAIN = 3;
    private static final int BY_PARTS = 4;
    private static final int BY_FIRSTS = 5;
    private static final int BY_RESTS = 6;

    private static final int ALL_GONE_OVER = 0;
    private static final int ENOUGH_CAME = 1;
    private static final int TERMS_ENDED = 2;
    private static final int SAYINGS_ENDED = 3;
    private static final int CLASH_ENDED = 4;

    private final Terms terms;
    private final Sayings sayings;
    private final Court court;
    private final Maker maker;
    private final Steps steps;
    private final Core clashCore;
    private final Core causes;
    private final int[] lawLefts;
    private final int[] lawRights;
    private final int[] goneOver;
    private int lawCount;
    private int endedBy;
    private int finding;

    public EqualCourt() {
        terms = new Terms();
        sayings = new Sayings();
        court = new Court(terms, sayings);
        maker = new Maker(terms);
        steps = new Steps(terms, sayings);
        clashCore = new Core();
        causes = new Core();
        lawLefts = new int[LAWS];
        lawRights = new int[LAWS];
        goneOver = new int[TERMS];
        lawCount = 0;
        endedBy = NONE;
        finding = FINE;
    }

    // ---- terms

    public int name(int n) {
        if (n < 0 || n >= NAMES) {
            return refused(BEYOND);
        }
        return madeTerm(NAME, n, NONE, NONE, NONE);
    }

    public int number(int v) {
        return madeTerm(NUMBER, v, NONE, NONE, NONE);
    }

    public int built(int head, int n, int a, int b, int c) {
        if (head < 0 || head >= HEADS) {
            return refused(BEYOND);
        }
        if (n < 0) {
            return refused(NEGATIVE);
        }
        if (n < 1 || n > PARTS || !terms.has(a) || (n > 1 && !terms.has(b)) || (n > 2 && !terms.has(c))) {
            return refused(BEYOND);
        }
        return madeTerm(BUILT, head, a, n > 1 ? b : NONE, n > 2 ? c : NONE);
    }

    public int row(int first, int rest) {
        if (!terms.has(first) || !terms.has(rest)) {
            return refused(BEYOND);
        }
        return madeTerm(ROW, 0, first, rest, NONE);
    }

    public int even(int head, int a, int b) {
        if (head < 0 || head >= HEADS || !terms.has(a) || !terms.has(b)) {
            return refused(BEYOND);
        }
        return madeTerm(EVEN, head, a, b, NONE);
    }

    public int kind(int t) {
        return terms.has(t) ? terms.kindOf(t) : NONE;
    }

    public int part(int t, int i) {
        if (!terms.has(t)) {
            return refused(BEYOND);
        }
        if (terms.sizeOf(t) == 0) {
            return refused(KIND);
        }
        if (i < 0 || i >= terms.sizeOf(t)) {
            return refused(BEYOND);
        }
        return done(terms.partOf(t, i));
    }

    public int shows(int t) {
        if (!terms.has(t)) {
            return refused(BEYOND);
        }
        if (terms.kindOf(t) == ROW) {
            return refused(KIND);
        }
        return done(terms.shownBy(t));
    }

    public int many(int what) {
        switch (what) {
            case 0:
                return terms.count();
            case 1:
                return sayings.count();
            case 2:
                return sayings.takenCount();
            case 3:
                return lawCount;
            case 4:
                return steps.count();
            case 5:
                return sayings.levels();
            case 6:
                return court.standing().classes();
            default:
                return NONE;
        }
    }

    // ---- sayings

    public int say(int a, int b) {
        if (!terms.has(a) || !terms.has(b)) {
            return refused(BEYOND);
        }
        if (sayings.isFull()) {
            return refused(FULL);
        }
        if (court.wouldClash(a, b)) {
            court.thin(false, a, b, clashCore);
            return refused(CLASH);
        }
        court.acceptTrial();
        return done(sayings.add(true, a, b));
    }

    public int unlike(int a, int b) {
        if (!terms.has(a) || !terms.has(b)) {
            return refused(BEYOND);
        }
        if (sayings.isFull()) {
            return refused(FULL);
        }
        if (court.standing().isOne(a, b)) {
            court.thin(true, a, b, clashCore);
            return refused(CLASH);
        }
        return done(sayings.add(false, a, b));
    }

    public int drop(int s) {
        if (!sayings.has(s)) {
            return refused(BEYOND);
        }
        if (!sayings.isTaken(s)) {
            return refused(GONE);
        }
        sayings.remove(s);
        if (sayings.isSame(s)) {
            court.judgeAnew();
        }
        return done(sayings.takenCount());
    }

    public int said(int s, int what) {
        if (!sayings.has(s)) {
            return NONE;
        }
        switch (what) {
            case 0:
                return sayings.isSame(s) ? 1 : 0;
            case 1:
                return sayings.left(s);
            case 2:
                return sayings.right(s);
            case 3:
                return sayings.isTaken(s) ? 1 : 0;
            default:
                return NONE;
        }
    }

    public int clashed(int i) {
        return clashCore.at(i);
    }

    // ---- judgements

    public int judge(int a, int b) {
        if (!terms.has(a) || !terms.has(b)) {
            return NONE;
        }
        if (court.standing().isOne(a, b)) {
            return 1;
        }
        return court.wouldClash(a, b) ? 0 : 2;
    }

    public int why(int a, int b) {
        if (!terms.has(a) || !terms.has(b)) {
            return refused(BEYOND);
        }
        boolean one = court.standing().isOne(a, b);
        if (!one && !court.wouldClash(a, b)) {
            return refused(OPEN);
        }
        court.thin(one, a, b, causes);
        return done(causes.count());
    }

    public int least(int a, int b, int trials) {
        if (!terms.has(a) || !terms.has(b) || trials < 1 || trials > MOST_TRIALS) {
            return refused(BEYOND);
        }
        if (!court.standing().isOne(a, b)) {
            return refused(OPEN);
        }
        if (!court.findFewest(a, b, trials, causes)) {
            return refused(SPENT);
        }
        return done(causes.count());
    }

    public int because(int i) {
        return causes.at(i);
    }

    public int head(int t) {
        return terms.has(t) ? court.standing().headOf(t) : NONE;
    }

    public int member(int t, int i) {
        if (!terms.has(t) || i < 0) {
            return NONE;
        }
        int before = 0;
        for (int u = 0; u < terms.count(); u++) {
            if (court.standing().isOne(u, t)) {
                if (before == i) {
                    return u;
                }
                before++;
            }
        }
        return NONE;
    }

    public int uses(int t, int i) {
        if (!terms.has(t) || i < 0) {
            return NONE;
        }
        int before = 0;
        for (int u = 0; u < terms.count(); u++) {
            if (court.standing().hasPartLike(u, t)) {
                if (before == i) {
                    return u;
                }
                before++;
            }
        }
        return NONE;
    }

    public long world(int t) {
        if (!terms.has(t)) {
            return NO_WORLD;
        }
        Partition standing = court.standing();
        int number = standing.numberOf(t);
        if (number != NONE) {
            return terms.shownBy(number);
        }
        return freeInt(standing.unnumberedBelow(standing.headOf(t)));
    }

    // ---- levels

    public int push() {
        if (sayings.levels() >= LEVELS) {
            return refused(FULL);
        }
        return done(sayings.beginLevel());
    }

    public int pop() {
        if (sayings.levels() == 0) {
            return refused(MISSING);
        }
        sayings.endLevel();
        court.judgeAnew();
        return done(sayings.takenCount());
    }

    // ---- laws

    public int law(int a, int b) {
        if (!terms.has(a) || !terms.has(b)) {
            return refused(BEYOND);
        }
        if (lawCount >= LAWS) {
            return refused(FULL);
        }
        lawLefts[lawCount] = a;
        lawRights[lawCount] = b;
        lawCount++;
        return done(lawCount - 1);
    }

    public int instance(int t, int x, int y, int z) {
        if (!terms.has(t) || !terms.has(x) || !terms.has(y) || !terms.has(z)) {
            return refused(BEYOND);
        }
        int made = madeInstance(t, x, y, z);
        return made == NONE ? refused(FULL) : done(made);
    }

    public int follow(int law, int n) {
        if (law < 0 || law >= lawCount || n < 1 || n > MOST_FOLLOWED) {
            return refused(BEYOND);
        }
        int heads = gatherHeads();
        if (heads == 0) {
            return refused(OPEN);
        }
        int holes = terms.holesOf(lawLefts[law]) | terms.holesOf(lawRights[law]);
        int xs = (holes & 1) != 0 ? heads : 1;
        int ys = (holes & 2) != 0 ? heads : 1;
        int zs = (holes & 4) != 0 ? heads : 1;
        int before = sayings.count();
        int end = ALL_GONE_OVER;
        for (int x = 0; x < xs && end == ALL_GONE_OVER; x++) {
            for (int y = 0; y < ys && end == ALL_GONE_OVER; y++) {
                for (int z = 0; z < zs && end == ALL_GONE_OVER; z++) {
                    end = applyLaw(law, goneOver[x], goneOver[y], goneOver[z]);
                    if (end == ALL_GONE_OVER && sayings.count() - before >= n) {
                        end = ENOUGH_CAME;
                    }
                }
            }
        }
        endedBy = end;
        return done(sayings.count() - before);
    }

    public int ended() {
        return endedBy;
    }

    // ---- steps

    public int claim(int reason, int a, int b, int i, int j) {
        if (!terms.has(a) || !terms.has(b)) {
            return refused(BEYOND);
        }
        if (steps.count() >= STEPS) {
            return refused(FULL);
        }
        return done(steps.add(reason, a, b, i, j));
    }

    public int unclaim() {
        int were = steps.count();
        steps.forget();
        return done(were);
    }

    public int check(int a, int b) {
        for (int k = 0; k < steps.count(); k++) {
            if (!steps.isRight(k)) {
                return k;
            }
        }
        return steps.says(steps.count() - 1, a, b) ? -1 : steps.count();
    }

    public int status() {
        return finding;
    }

    // ---- what the methods of the face share

    private int refused(int why) {
        finding = why;
        return NONE;
    }

    private int done(int answer) {
        finding = FINE;
        return answer;
    }

    private int madeTerm(int kind, int shown, int a, int b, int c) {
        int before = terms.count();
        int t = terms.findOrMake(kind, shown, a, b, c);
        if (t == NONE) {
            return refused(FULL);
        }
        court.admitFrom(before);
        return done(t);
    }

    private int madeInstance(int t, int x, int y, int z) {
        int before = terms.count();
        int made = maker.makeInstance(t, x, y, z);
        court.admitFrom(before);
        return made;
    }

    private int freeInt(int k) {
        int left = k;
        // Each of at most 120 NUMBERS and 120 CLASSES can move the answer up by one.
        for (int v = 0; v <= 2 * TERMS; v++) {
            if (terms.find(NUMBER, v, NONE, NONE, NONE) == NONE) {
                if (left == 0) {
                    return v;
                }
                left--;
            }
        }
        return 2 * TERMS;
    }

    private int gatherHeads() {
        int heads = 0;
        for (int t = 0; t < terms.count(); t++) {
            if (court.standing().headOf(t) == t && !terms.isHole(t)) {
                goneOver[heads] = t;
                heads++;
            }
        }
        return heads;
    }

    /** Answers ALL_GONE_OVER if follow() may go on, else why it ends. */
    private int applyLaw(int law, int x, int y, int z) {
        int a = madeInstance(lawLefts[law], x, y, z);
        if (a == NONE) {
            return TERMS_ENDED;
        }
        int b = madeInstance(lawRights[law], x, y, z);
        if (b == NONE) {
            return TERMS_ENDED;
        }
        if (court.standing().isOne(a, b)) {
            return ALL_GONE_OVER;
        }
        if (sayings.isFull()) {
            return SAYINGS_ENDED;
        }
        if (court.wouldClash(a, b)) {
            court.thin(false, a, b, clashCore);
            return CLASH_ENDED;
        }
        court.acceptTrial();
        sayings.add(true, a, b);
        return ALL_GONE_OVER;
    }

    private static int slotFor(int kind, int shown, int a, int b, int c) {
        int mixed = (((kind * 31 + shown) * 127 + a) * 127 + b) * 127 + c;
        return (mixed * SPREAD) >>> SLOT_SHIFT;
    }

    /** All TERMS, each there once, with the places where each stands as a PART. */
    private static final class Terms {
        private final int[] kinds = new int[TERMS];
        private final int[] shown = new int[TERMS];
        private final int[] sizes = new int[TERMS];
        private final int[] parts = new int[TERMS * PARTS];
        private final int[] holes = new int[TERMS];
        private final int[] buckets = new int[BUCKETS];
        private final int[] chain = new int[TERMS];
        // A place is PARTS * (the TERM) + (which PART); the places of each TERM are a chain.
        private final int[] firstPlace = new int[TERMS];
        private final int[] nextPlace = new int[TERMS * PARTS];
        private int count;

        Terms() {
            Arrays.fill(buckets, NONE);
        }

        int count() {
            return count;
        }

        boolean has(int t) {
            return t >= 0 && t < count;
        }

        int kindOf(int t) {
            return kinds[t];
        }

        int shownBy(int t) {
            return shown[t];
        }

        int sizeOf(int t) {
            return sizes[t];
        }

        /** NONE for a PART that the TERM hasn't. */
        int partOf(int t, int i) {
            return parts[PARTS * t + i];
        }

        /** Bit h is set if HOLE 90 + h stands in the TERM. */
        int holesOf(int t) {
            return holes[t];
        }

        boolean isHole(int t) {
            return kinds[t] == NAME && shown[t] >= FIRST_HOLE && shown[t] < FIRST_HOLE + HOLES;
        }

        int find(int kind, int show, int a, int b, int c) {
            int t = buckets[slotFor(kind, show, a, b, c)];
            for (int seen = 0; seen < TERMS && t != NONE; seen++) {
                int at = PARTS * t;
                if (kinds[t] == kind && shown[t] == show
                        && parts[at] == a && parts[at + 1] == b && parts[at + 2] == c) {
                    return t;
                }
                t = chain[t];
            }
            return NONE;
        }

        /** NONE if it isn't there and there is no room for it. */
        int findOrMake(int kind, int show, int a, int b, int c) {
            int there = find(kind, show, a, b, c);
            if (there != NONE || count >= TERMS) {
                return there;
            }
            int t = count;
            count++;
            kinds[t] = kind;
            shown[t] = show;
            sizes[t] = a == NONE ? 0 : b == NONE ? 1 : c == NONE ? 2 : 3;
            parts[PARTS * t] = a;
            parts[PARTS * t + 1] = b;
            parts[PARTS * t + 2] = c;
            firstPlace[t] = NONE;
            holes[t] = isHole(t) ? 1 << (show - FIRST_HOLE) : 0;
            for (int place = PARTS * t; place < PARTS * t + sizes[t]; place++) {
                int p = parts[place];
                holes[t] |= holes[p];
                nextPlace[place] = firstPlace[p];
                firstPlace[p] = place;
            }
            int slot = slotFor(kind, show, a, b, c);
            chain[t] = buckets[slot];
            buckets[slot] = t;
            return t;
        }

        /** Unmakes the latest TERMS, the last one first, so that each one heads its chains when it goes. */
        void unmakeFrom(int before) {
            for (int t = count - 1; t >= before; t--) {
                int at = PARTS * t;
                for (int place = at + sizes[t] - 1; place >= at; place--) {
                    firstPlace[parts[place]] = nextPlace[place];
                }
                buckets[slotFor(kinds[t], shown[t], parts[at], parts[at + 1], parts[at + 2])] = chain[t];
                count = t;
            }
        }
    }

    /** What is still to be done in a Partition: pairs to unite and TERMS whose PARTS have changed CLASS. */
    private static final class Agenda {
        // Each of at most 119 unions takes one pair off and puts at most two on.
        private static final int MOST_PAIRS = 2 * TERMS + 2;

        private final int[] lefts = new int[MOST_PAIRS];
        private final int[] rights = new int[MOST_PAIRS];
        private final int[] changed = new int[TERMS];
        private final boolean[] waits = new boolean[TERMS];
        private int pairCount;
        private int changedCount;

        void putPair(int a, int b) {
            if (pairCount < MOST_PAIRS) {
                lefts[pairCount] = a;
                rights[pairCount] = b;
                pairCount++;
            }
        }

        boolean hasPair() {
            return pairCount > 0;
        }

        int lastLeft() {
            return lefts[pairCount - 1];
        }

        int lastRight() {
            return rights[pairCount - 1];
        }

        void removePair() {
            pairCount--;
        }

        void putChanged(int t) {
            if (!waits[t] && changedCount < TERMS) {
                waits[t] = true;
                changed[changedCount] = t;
                changedCount++;
            }
        }

        boolean hasChanged() {
            return changedCount > 0;
        }

        int takeChanged() {
            changedCount--;
            int t = changed[changedCount];
            waits[t] = false;
            return t;
        }

        void clear() {
            pairCount = 0;
            for (int i = 0; i < changedCount; i++) {
                waits[changed[i]] = false;
            }
            changedCount = 0;
        }
    }

    /** Which TERMS are ONE by a set of SAYINGS that grows: the closure is kept at each step. */
    private static final class Partition {
        private final Terms terms;
        private final Agenda agenda;
        private final int[] root = new int[TERMS];
        private final int[] next = new int[TERMS];
        // Told for roots alone: how many are in the CLASS, the least, a NUMBER and a ROW in it, or NONE.
        private final int[] size = new int[TERMS];
        private final int[] least = new int[TERMS];
        private final int[] number = new int[TERMS];
        private final int[] aRow = new int[TERMS];
        // TERMS with PARTS, found by the roots of these; slot is NONE for one that another stands for.
        private final int[] buckets = new int[BUCKETS];
        private final int[] chain = new int[TERMS];
        private final int[] slot = new int[TERMS];
        private int known;
        private int classes;
        private boolean torn;

        Partition(Terms terms, Agenda agenda) {
            this.terms = terms;
            this.agenda = agenda;
            Arrays.fill(buckets, NONE);
        }

        int classes() {
            return classes;
        }

        /** Two unlike NUMBERS met: what is ONE was not followed any further then. */
        boolean isTorn() {
            return torn;
        }

        boolean isOne(int a, int b) {
            return root[a] == root[b];
        }

        int headOf(int t) {
            return least[root[t]];
        }

        int numberOf(int t) {
            return number[root[t]];
        }

        int unnumberedBelow(int t) {
            int found = 0;
            for (int h = 0; h < t; h++) {
                if (headOf(h) == h && numberOf(h) == NONE) {
                    found++;
                }
            }
            return found;
        }

        boolean hasPartLike(int u, int t) {
            for (int i = 0; i < terms.sizeOf(u); i++) {
                if (isOne(terms.partOf(u, i), t)) {
                    return true;
                }
            }
            return false;
        }

        void copyFrom(Partition other) {
            known = other.known;
            classes = other.classes;
            torn = other.torn;
            System.arraycopy(other.root, 0, root, 0, known);
            System.arraycopy(other.next, 0, next, 0, known);
            System.arraycopy(other.size, 0, size, 0, known);
            System.arraycopy(other.least, 0, least, 0, known);
            System.arraycopy(other.number, 0, number, 0, known);
            System.arraycopy(other.aRow, 0, aRow, 0, known);
            System.arraycopy(other.buckets, 0, buckets, 0, BUCKETS);
            System.arraycopy(other.chain, 0, chain, 0, known);
            System.arraycopy(other.slot, 0, slot, 0, known);
        }

        /** A new TERM: it may fall into a CLASS, but never makes two CLASSES one, as nothing is built of it yet. */
        void admit(int t) {
            root[t] = t;
            next[t] = t;
            size[t] = 1;
            least[t] = t;
            number[t] = terms.kindOf(t) == NUMBER ? t : NONE;
            aRow[t] = terms.kindOf(t) == ROW ? t : NONE;
            chain[t] = NONE;
            slot[t] = NONE;
            known = t + 1;
            classes++;
            if (terms.sizeOf(t) > 0) {
                agenda.putChanged(t);
            }
            join(t, t);
        }

        /** Makes a and b ONE, and all that follows from it. */
        void join(int a, int b) {
            agenda.putPair(a, b);
            for (int turn = 0; turn < MANY && !torn; turn++) {
                if (agenda.hasPair()) {
                    int one = root[agenda.lastLeft()];
                    int other = root[agenda.lastRight()];
                    agenda.removePair();
                    if (one != other) {
                        boolean turned = size[one] < size[other];
                        unite(turned ? other : one, turned ? one : other);
                        uniteRows(turned ? other : one, turned ? one : other);
                    }
                } else if (agenda.hasChanged()) {
                    review(agenda.takeChanged());
                } else {
                    break;
                }
            }
            agenda.clear();
        }

        /** Puts one CLASS into another that is no smaller, so that few TERMS have to be looked at again. */
        private void unite(int keep, int lose) {
            int t = lose;
            for (int i = 0; i < size[lose]; i++) {
                root[t] = keep;
                int place = terms.firstPlace[t];
                for (int seen = 0; seen < TERMS * PARTS && place != NONE; seen++) {
                    // An INSTANCE's TERMS are all made before the first of them is admitted.
                    if (place / PARTS < known) {
                        agenda.putChanged(place / PARTS);
                    }
                    place = terms.nextPlace[place];
                }
                t = next[t];
            }
            int after = next[keep];
            next[keep] = next[lose];
            next[lose] = after;
            size[keep] += size[lose];
            least[keep] = Math.min(least[keep], least[lose]);
            classes--;
            if (number[lose] != NONE) {
                torn = torn || number[keep] != NONE;
                number[keep] = number[lose];
            }
        }

        private void uniteRows(int keep, int lose) {
            int theirs = aRow[lose];
            int ours = aRow[keep];
            if (ours == NONE) {
                aRow[keep] = theirs;
            } else if (theirs != NONE) {
                agenda.putPair(terms.parts[PARTS * ours], terms.parts[PARTS * theirs]);
                agenda.putPair(terms.parts[PARTS * ours + 1], terms.parts[PARTS * theirs + 1]);
            }
        }

        /** Finds the place of a TERM with PARTS anew; if another is there already, the two are ONE. */
        private void review(int t) {
            takeOut(t);
            int p = rootOfPart(t, 0);
            int q = rootOfPart(t, 1);
            boolean turned = terms.kinds[t] == EVEN && p > q;
            int s = slotFor(terms.kinds[t], terms.shown[t], turned ? q : p, turned ? p : q, rootOfPart(t, 2));
            int u = buckets[s];
            for (int seen = 0; seen < TERMS && u != NONE; seen++) {
                if (isBuiltAlike(t, u)) {
                    agenda.putPair(t, u);
                    return;
                }
                u = chain[u];
            }
            slot[t] = s;
            chain[t] = buckets[s];
            buckets[s] = t;
        }

        private int rootOfPart(int t, int i) {
            return i < terms.sizes[t] ? root[terms.parts[PARTS * t + i]] : NONE;
        }

        private boolean isBuiltAlike(int t, int u) {
            int many = terms.sizes[t];
            if (terms.kinds[t] != terms.kinds[u] || terms.shown[t] != terms.shown[u] || many != terms.sizes[u]) {
                return false;
            }
            int p = PARTS * t;
            int q = PARTS * u;
            boolean alike = true;
            for (int i = 0; i < many && alike; i++) {
                alike = root[terms.parts[p + i]] == root[terms.parts[q + i]];
            }
            if (alike || terms.kinds[t] != EVEN) {
                return alike;
            }
            return root[terms.parts[p]] == root[terms.parts[q + 1]] && root[terms.parts[p + 1]] == root[terms.parts[q]];
        }

        private void takeOut(int t) {
            int s = slot[t];
            if (s == NONE) {
                return;
            }
            slot[t] = NONE;
            if (buckets[s] == t) {
                buckets[s] = chain[t];
                return;
            }
            int u = buckets[s];
            for (int seen = 0; seen < TERMS && u != NONE; seen++) {
                if (chain[u] == t) {
                    chain[u] = chain[t];
                    return;
                }
                u = chain[u];
            }
        }
    }

    /** All SAYINGS, and which were TAKEN when each level began. */
    private static final class Sayings {
        private final boolean[] same = new boolean[SAYINGS];
        private final int[] lefts = new int[SAYINGS];
        private final int[] rights = new int[SAYINGS];
        // 1 or 0: only arrays of numbers are copied.
        private final int[] taken = new int[SAYINGS];
        private final int[] remembered = new int[LEVELS * SAYINGS];
        private int count;
        private int takenCount;
        private int levels;

        int count() {
            return count;
        }

        int takenCount() {
            return takenCount;
        }

        int levels() {
            return levels;
        }

        boolean has(int s) {
            return s >= 0 && s < count;
        }

        boolean isFull() {
            return count >= SAYINGS;
        }

        boolean isSame(int s) {
            return same[s];
        }

        int left(int s) {
            return lefts[s];
        }

        int right(int s) {
            return rights[s];
        }

        boolean isTaken(int s) {
            return taken[s] == 1;
        }

        int add(boolean isSame, int a, int b) {
            if (count >= SAYINGS) {
                return NONE;
            }
            same[count] = isSame;
            lefts[count] = a;
            rights[count] = b;
            taken[count] = 1;
            count++;
            takenCount++;
            return count - 1;
        }

        void remove(int s) {
            taken[s] = 0;
            takenCount--;
        }

        int beginLevel() {
            if (levels < LEVELS) {
                System.arraycopy(taken, 0, remembered, levels * SAYINGS, SAYINGS);
                levels++;
            }
            return levels;
        }

        /** What came in the level was not TAKEN when it began, so it is GONE by the copy too. */
        void endLevel() {
            if (levels > 0) {
                levels--;
                System.arraycopy(remembered, levels * SAYINGS, taken, 0, SAYINGS);
            }
            takenCount = 0;
            for (int s = 0; s < count; s++) {
                takenCount += taken[s];
            }
        }
    }

    /** A row of SAYINGS that something follows from. */
    private static final class Core {
        private final int[] items = new int[SAYINGS];
        private int count;

        int count() {
            return count;
        }

        int at(int i) {
            return i >= 0 && i < count ? items[i] : NONE;
        }

        void add(int s) {
            if (count < SAYINGS) {
                items[count] = s;
                count++;
            }
        }

        void clear() {
            count = 0;
        }
    }

    /** COURT: what is ONE by all that is TAKEN, and what would be by other sets of it. */
    private static final class Court {
        private final Terms terms;
        private final Sayings sayings;
        // What is ONE by no SAYING at all: EVEN ones with their PARTS turned are. Each trial starts here.
        private final Partition bare;
        private Partition standing;
        private Partition trial;
        private final Core unlikes = new Core();
        private final int[] pool = new int[SAYINGS];
        private final boolean[] helps = new boolean[SAYINGS];
        private final int[] picks = new int[SAYINGS];

        Court(Terms terms, Sayings sayings) {
            this.terms = terms;
            this.sayings = sayings;
            Agenda agenda = new Agenda();
            bare = new Partition(terms, agenda);
            standing = new Partition(terms, agenda);
            trial = new Partition(terms, agenda);
        }

        Partition standing() {
            return standing;
        }

        void admitFrom(int before) {
            for (int t = before; t < terms.count(); t++) {
                bare.admit(t);
                standing.admit(t);
            }
        }

        void judgeAnew() {
            standing.copyFrom(bare);
            for (int s = 0; s < sayings.count(); s++) {
                if (sayings.isTaken(s) && sayings.isSame(s)) {
                    standing.join(sayings.left(s), sayings.right(s));
                }
            }
        }

        /** Tries a SAYING that a and b are the same; if it doesn't CLASH, acceptTrial() lets it stand. */
        boolean wouldClash(int a, int b) {
            trial.copyFrom(standing);
            trial.join(a, b);
            if (trial.isTorn()) {
                return true;
            }
            for (int s = 0; s < sayings.count(); s++) {
                if (sayings.isTaken(s) && !sayings.isSame(s) && trial.isOne(sayings.left(s), sayings.right(s))) {
                    return true;
                }
            }
            return false;
        }

        void acceptTrial() {
            Partition before = standing;
            standing = trial;
            trial = before;
        }

        /**
         * THINS COURT, for a and b being ONE, or else for CLASHING with a SAYING that they are the same.
         * More SAYINGS never undo either, so the next one that is kept is the greatest that, with all
         * behind it and those kept, is enough: it is found from the last one back, in one go.
         */
        void thin(boolean forOne, int a, int b, Core core) {
            core.clear();
            for (int round = 0; round < SAYINGS; round++) {
                trial.copyFrom(bare);
                unlikes.clear();
                if (!forOne) {
                    trial.join(a, b);
                }
                for (int i = 0; i < core.count(); i++) {
                    addToTrial(core.at(i));
                }
                if (isReached(forOne, a, b)) {
                    return;
                }
                // NONE, which is one below the first SAYING, if none is kept yet.
                int last = core.at(core.count() - 1);
                int s = sayings.count() - 1;
                while (s > last && !(sayings.isTaken(s) && addToTrial(s) && isReached(forOne, a, b))) {
                    s--;
                }
                if (s <= last) {
                    return;
                }
                core.add(s);
            }
        }

        /** Answers whether it can have changed anything. */
        private boolean addToTrial(int s) {
            if (!sayings.isSame(s)) {
                unlikes.add(s);
                return true;
            }
            if (trial.isTorn() || trial.isOne(sayings.left(s), sayings.right(s))) {
                return false;
            }
            trial.join(sayings.left(s), sayings.right(s));
            return true;
        }

        private boolean isReached(boolean forOne, int a, int b) {
            if (forOne) {
                return trial.isOne(a, b);
            }
            if (trial.isTorn()) {
                return true;
            }
            for (int i = 0; i < unlikes.count(); i++) {
                int s = unlikes.at(i);
                if (trial.isOne(sayings.left(s), sayings.right(s))) {
                    return true;
                }
            }
            return false;
        }

        /** False, and the core as it was, if none of the first so many sets is enough. */
        boolean findFewest(int a, int b, int trials, Core core) {
            int many = fillPool();
            int tried = 0;
            for (int size = 0; size <= many && tried < trials; size++) {
                for (int i = 0; i < size; i++) {
                    picks[i] = i;
                }
                boolean more = true;
                while (more && tried < trials) {
                    tried++;
                    if (isOneByPicks(size, a, b)) {
                        core.clear();
                        for (int i = 0; i < size; i++) {
                            core.add(pool[picks[i]]);
                        }
                        return true;
                    }
                    more = pickNext(size, many);
                }
            }
            return false;
        }

        private int fillPool() {
            int many = 0;
            for (int s = 0; s < sayings.count(); s++) {
                if (sayings.isTaken(s)) {
                    pool[many] = s;
                    helps[many] = sayings.isSame(s) && !bare.isOne(sayings.left(s), sayings.right(s));
                    many++;
                }
            }
            return many;
        }

        private boolean isOneByPicks(int size, int a, int b) {
            for (int i = 0; i < size; i++) {
                // The set without it was tried already, and was not enough.
                if (!helps[picks[i]]) {
                    return false;
                }
            }
            trial.copyFrom(bare);
            for (int i = 0; i < size; i++) {
                int s = pool[picks[i]];
                trial.join(sayings.left(s), sayings.right(s));
            }
            return trial.isOne(a, b);
        }

        /** Picks the set of as many that comes next; false if there is none. */
        private boolean pickNext(int size, int many) {
            int i = size - 1;
            while (i >= 0 && picks[i] >= many - size + i) {
                i--;
            }
            if (i < 0) {
                return false;
            }
            picks[i]++;
            for (int k = i + 1; k < size; k++) {
                picks[k] = picks[k - 1] + 1;
            }
            return true;
        }
    }

    /** Makes INSTANCES. */
    private static final class Maker {
        private final Terms terms;
        private final int[] images = new int[TERMS];
        private final int[] turnOfImage = new int[TERMS];
        private final int[] path = new int[TERMS];
        private final int[] fillings = new int[HOLES];
        private int turn;

        Maker(Terms terms) {
            this.terms = terms;
        }

        /** NONE, and no TERM is made, if there is no room for all that it needs. */
        int makeInstance(int t, int x, int y, int z) {
            int before = terms.count();
            fillings[0] = x;
            fillings[1] = y;
            fillings[2] = z;
            turn++;
            // A path through the TERM instead of calls within calls: a TERM may be 120 deep.
            int depth = 0;
            path[0] = t;
            for (int step = 0; step < MANY && depth >= 0; step++) {
                int u = path[depth];
                int open = isKnown(u) ? NONE : openPart(u);
                if (open != NONE && depth + 1 < TERMS) {
                    depth++;
                    path[depth] = open;
                } else {
                    if (!isKnown(u) && !makeImage(u)) {
                        terms.unmakeFrom(before);
                        return NONE;
                    }
                    depth--;
                }
            }
            return imageOf(t);
        }

        private boolean isKnown(int t) {
            return t == NONE || terms.holesOf(t) == 0 || terms.isHole(t) || turnOfImage[t] == turn;
        }

        private int imageOf(int t) {
            if (t == NONE || terms.holesOf(t) == 0) {
                return t;
            }
            if (terms.isHole(t)) {
                return fillings[terms.shownBy(t) - FIRST_HOLE];
            }
            return images[t];
        }

        private int openPart(int t) {
            for (int i = 0; i < terms.sizeOf(t); i++) {
                if (!isKnown(terms.partOf(t, i))) {
                    return terms.partOf(t, i);
                }
            }
            return NONE;
        }

        private boolean makeImage(int t) {
            int a = imageOf(terms.partOf(t, 0));
            int b = imageOf(terms.partOf(t, 1));
            int c = imageOf(terms.partOf(t, 2));
            int image = terms.findOrMake(terms.kindOf(t), terms.shownBy(t), a, b, c);
            images[t] = image;
            turnOfImage[t] = turn;
            return image != NONE;
        }
    }

    /** The STEPS that are claimed. */
    private static final class Steps {
        private final Terms terms;
        private final Sayings sayings;
        private final int[] reasons = new int[STEPS];
        private final int[] lefts = new int[STEPS];
        private final int[] rights = new int[STEPS];
        private final int[] is = new int[STEPS];
        private final int[] js = new int[STEPS];
        private int count;

        Steps(Terms terms, Sayings sayings) {
            this.terms = terms;
            this.sayings = sayings;
        }

        int count() {
            return count;
        }

        int add(int reason, int a, int b, int i, int j) {
            if (count >= STEPS) {
                return NONE;
            }
            reasons[count] = reason;
            lefts[count] = a;
            rights[count] = b;
            is[count] = i;
            js[count] = j;
            count++;
            return count - 1;
        }

        void forget() {
            count = 0;
        }

        /** False if there is no such STEP. */
        boolean says(int k, int a, int b) {
            return k >= 0 && k < count && lefts[k] == a && rights[k] == b;
        }

        /** Whether it is right if all STEPS ahead of it are. */
        boolean isRight(int k) {
            int a = lefts[k];
            int b = rights[k];
            int i = is[k];
            switch (reasons[k]) {
                case BY_SAYING:
                    return isSaid(i, a, b);
                case BY_ITSELF:
                    return a == b;
                case BY_TURNING:
                    return i < k && says(i, b, a);
                case BY_CHAIN:
                    return isChained(k, i, js[k]);
                case BY_PARTS:
                    return isByParts(k, a, b, i == 1);
                case BY_FIRSTS:
                    return isOfRows(k, i, 0);
                case BY_RESTS:
                    return isOfRows(k, i, 1);
                default:
                    return false;
            }
        }

        private boolean isSaid(int s, int a, int b) {
            if (!sayings.has(s) || !sayings.isTaken(s) || !sayings.isSame(s)) {
                return false;
            }
            int left = sayings.left(s);
            int right = sayings.right(s);
            return (left == a && right == b) || (left == b && right == a);
        }

        private boolean isChained(int k, int i, int j) {
            if (i < 0 || i >= k || j < 0 || j >= k) {
                return false;
            }
            return lefts[i] == lefts[k] && rights[i] == lefts[j] && rights[j] == rights[k];
        }

        private boolean isByParts(int k, int a, int b, boolean turn) {
            int kind = terms.kindOf(a);
            int size = terms.sizeOf(a);
            if (size == 0 || kind != terms.kindOf(b) || size != terms.sizeOf(b)
                    || terms.shownBy(a) != terms.shownBy(b)) {
                return false;
            }
            boolean turned = turn && kind == EVEN;
            for (int place = 0; place < size; place++) {
                int other = turned ? 1 - place : place;
                if (!isSameBefore(k, terms.partOf(a, place), terms.partOf(b, other))) {
                    return false;
                }
            }
            return true;
        }

        private boolean isSameBefore(int k, int a, int b) {
            if (a == b) {
                return true;
            }
            for (int i = 0; i < k; i++) {
                if (says(i, a, b)) {
                    return true;
                }
            }
            return false;
        }

        private boolean isOfRows(int k, int i, int place) {
            if (i < 0 || i >= k || terms.kindOf(lefts[i]) != ROW || terms.kindOf(rights[i]) != ROW) {
                return false;
            }
            return terms.partOf(lefts[i], place) == lefts[k] && terms.partOf(rights[i], place) == rights[k];
        }
    }
}
