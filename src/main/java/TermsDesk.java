/**
 * A desk of licences. What it must do stands in DOC.md; the words that are in capitals there
 * (licence, ask, shipping, kind, part, join, quarrel ...) mean the same in the comments here.
 *
 * An ask of a licence is called a pair here and has the number 8 * licence + ask: so a set of
 * pairs is the bits of one long, and what has come to a part goes along a join by one mask.
 */
public final class TermsDesk {
    public static final int NONE = -1;

    private static final int LICENCES = 8;
    private static final int ASKS = 8;
    private static final int SHIPPINGS = 4;
    private static final int KINDS = 4;
    private static final int PAIRS = 64;
    private static final int PARTS = 24;
    private static final int CHOICES = 3;
    private static final int JOINS = 40;
    private static final int CHANGES = 10;
    private static final int HIGHEST_PRICE = 100000;
    private static final int MOST_WAYS = 6561;
    private static final int CHANGE_OF_LICENCE = 0;
    private static final int CHANGE_BY_CUTTING = 1;
    private static final int FIRST_CHOICE_LOOK = 5;
    /** More quarrels than there can be, and more pairs. */
    private static final int MORE_THAN_ANY = PARTS * PAIRS + 1;

    private final Terms terms;
    private final Parts parts;
    private final Joins joins;
    private final Changes changes;
    private final Flow flow;
    private final Chooser chooser;
    private final Mender mender;
    private final Tracer tracer;

    public TermsDesk() {
        terms = new Terms();
        parts = new Parts();
        joins = new Joins();
        changes = new Changes();
        flow = new Flow(terms, parts, joins);
        chooser = new Chooser(parts, joins, flow);
        mender = new Mender(parts, joins, changes, flow);
        tracer = new Tracer(terms, parts, joins, flow);
    }

    public boolean asks(int l, int d, int shippings, int kinds) {
        if (!isPair(l, d) || !within(shippings, 1 << SHIPPINGS) || !within(kinds, 1 << KINDS)) {
            return false;
        }
        terms.tellAsk(pairOf(l, d), shippings, kinds);
        return true;
    }

    public boolean bars(int l, int set) {
        if (!within(l, LICENCES) || !within(set, 1 << ASKS)) {
            return false;
        }
        terms.tellBars(l, set);
        return true;
    }

    public int part(int a, int b, int c) {
        if (!isRowOfChoices(a, b, c) || parts.told >= PARTS) {
            return NONE;
        }
        return parts.add(a, b, c);
    }

    public boolean take(int p, int i) {
        if (!parts.has(p) || !within(i, parts.choiceCount[p])) {
            return false;
        }
        int licence = parts.choiceOf(p, i);
        if (parts.licence[p] == licence) {
            return false;
        }
        parts.licence[p] = licence;
        return true;
    }

    public int join(int a, int b, int kind) {
        if (!parts.has(a) || !parts.has(b) || !within(kind, KINDS) || joins.told >= JOINS) {
            return NONE;
        }
        // allIn holds the part itself, so this refuses a == b as well.
        if (joins.leads(a, b) || holds(joins.allIn(a, joins.there), b)) {
            return NONE;
        }
        return joins.add(a, b, kind);
    }

    public boolean cut(int j) {
        if (!joins.isThere(j)) {
            return false;
        }
        joins.remove(j);
        return true;
    }

    public boolean except(int p, int l, int d) {
        if (!parts.has(p) || !isPair(l, d) || holds(parts.lifted[p], pairOf(l, d))) {
            return false;
        }
        parts.lifted[p] |= 1L << pairOf(l, d);
        return true;
    }

    public boolean product(int p) {
        if (!parts.has(p)) {
            return false;
        }
        parts.top = p;
        return true;
    }

    public int change(int what, int which, int l, int price) {
        boolean known = what == CHANGE_OF_LICENCE && parts.has(which) && within(l, LICENCES)
                || what == CHANGE_BY_CUTTING && within(which, joins.told);
        if (!known || !within(price, HIGHEST_PRICE + 1) || changes.told >= CHANGES) {
            return NONE;
        }
        return changes.add(what, which, l, price);
    }

    public int come(int s, int p, int l) {
        if (!within(s, SHIPPINGS) || !parts.has(p) || !within(l, LICENCES)) {
            return NONE;
        }
        flow.run(s, parts.licence, joins.there);
        return (int) (flow.arrived[p] >>> pairOf(l, 0)) & (1 << ASKS) - 1;
    }

    public int quarrels(int s) {
        if (!within(s, SHIPPINGS)) {
            return NONE;
        }
        flow.run(s, parts.licence, joins.there);
        return flow.quarrelCount(parts.licence, joins.there);
    }

    public int quarrel(int s, int i) {
        if (!within(s, SHIPPINGS) || i < 0) {
            return NONE;
        }
        flow.run(s, parts.licence, joins.there);
        return flow.quarrelAt(i);
    }

    public int judge(int s) {
        if (!within(s, SHIPPINGS) || parts.told == 0 || flow.wayCount() == NONE) {
            return NONE;
        }
        return chooser.takeBest(s);
    }

    public int cheapest(int s) {
        return within(s, SHIPPINGS) ? mender.cheapestSet(s) : NONE;
    }

    public int price(int set) {
        return within(set, 1 << changes.told) ? changes.priceOf(set) : NONE;
    }

    public int way(int s, int l, int d, int p, int i) {
        if (!within(s, SHIPPINGS) || !isPair(l, d) || !parts.has(p)) {
            return NONE;
        }
        return tracer.partOnWay(s, pairOf(l, d), p, i);
    }

    public int notice(int s, int i) {
        if (!within(s, SHIPPINGS) || parts.told == 0) {
            return NONE;
        }
        return memberAt(tracer.noticed(s), i);
    }

    public int differ(int s, int t, int i) {
        if (!within(s, SHIPPINGS) || !within(t, SHIPPINGS)) {
            return NONE;
        }
        return memberAt(flow.unlike(s, t), i);
    }

    public int look(int p, int what) {
        if (!parts.has(p)) {
            return NONE;
        }
        switch (what) {
            case 0:
                return parts.licence[p];
            case 1:
                return parts.choiceCount[p];
            case 2:
                return holds(flow.ofProduct(joins.there), p) ? 1 : 0;
            case 3:
                return joins.countInto(p);
            case 4:
                return joins.countOutOf(p);
            default:
                return choiceOrNone(p, what);
        }
    }

    public int count(int what) {
        switch (what) {
            case 0:
                return parts.told;
            case 1:
                return joins.told;
            case 2:
                return Long.bitCount(joins.there);
            case 3:
                return Integer.bitCount(flow.ofProduct(joins.there));
            case 4:
                return changes.told;
            case 5:
                return parts.top;
            case 6:
                return flow.wayCount();
            default:
                return NONE;
        }
    }

    private int choiceOrNone(int p, int what) {
        // The lower bound comes first: without it the subtraction could wrap round.
        if (what < FIRST_CHOICE_LOOK || what - FIRST_CHOICE_LOOK >= parts.choiceCount[p]) {
            return NONE;
        }
        return parts.choiceOf(p, what - FIRST_CHOICE_LOOK);
    }

    private static boolean within(int x, int bound) {
        return x >= 0 && x < bound;
    }

    private static boolean isPair(int l, int d) {
        return within(l, LICENCES) && within(d, ASKS);
    }

    private static int pairOf(int l, int d) {
        return l * ASKS + d;
    }

    private static boolean holds(long set, int member) {
        return (set >>> member & 1) != 0;
    }

    /** All pairs of licence l. */
    private static long pairsOf(int l) {
        return (long) (1 << ASKS) - 1 << pairOf(l, 0);
    }

    private static boolean isRowOfChoices(int a, int b, int c) {
        if (!within(a, LICENCES)) {
            return false;
        }
        if (b == NONE) {
            return c == NONE;
        }
        if (!within(b, LICENCES) || a == b) {
            return false;
        }
        return c == NONE || within(c, LICENCES) && c != a && c != b;
    }

    /** The i-th part of a set of parts, by number, or NONE. */
    private static int memberAt(int set, int i) {
        int before = 0;
        for (int p = 0; p < PARTS; p++) {
            if (holds(set, p)) {
                if (before == i) {
                    return p;
                }
                before++;
            }
        }
        return NONE;
    }

    /** What the licences tell, as sets of pairs. */
    private static final class Terms {
        /** By shipping: the pairs that are asked in it. */
        private final long[] asked = new long[SHIPPINGS];
        /** By kind: the pairs that go along joins of it. */
        private final long[] along = new long[KINDS];
        /** By licence: the pairs that quarrel with a part that has taken it. */
        private final long[] fought = new long[LICENCES];

        void tellAsk(int pair, int shippings, int kinds) {
            spread(asked, pair, shippings);
            spread(along, pair, kinds);
        }

        private static void spread(long[] sets, int pair, int bits) {
            for (int i = 0; i < sets.length; i++) {
                long others = sets[i] & ~(1L << pair);
                sets[i] = holds(bits, i) ? others | 1L << pair : others;
            }
        }

        void tellBars(int l, int asks) {
            long set = 0;
            for (int other = 0; other < LICENCES; other++) {
                // A part does not quarrel with asks of the licence that it has taken itself.
                if (other != l) {
                    set |= (long) asks << pairOf(other, 0);
                }
            }
            fought[l] = set;
        }
    }

    /** The parts with their choices, what they have taken, and their exceptions. */
    private static final class Parts {
        private final int[] choices = new int[PARTS * CHOICES];
        private final int[] choiceCount = new int[PARTS];
        /** By part: the licence that it has taken. */
        private final int[] licence = new int[PARTS];
        /** By part: the pairs that exceptions lift. */
        private final long[] lifted = new long[PARTS];
        private int told;
        /** The product. */
        private int top;

        boolean has(int p) {
            return within(p, told);
        }

        int choiceOf(int p, int i) {
            return choices[p * CHOICES + i];
        }

        int add(int a, int b, int c) {
            int p = told;
            told++;
            choices[p * CHOICES] = a;
            choices[p * CHOICES + 1] = b;
            choices[p * CHOICES + 2] = c;
            choiceCount[p] = b == NONE ? 1 : c == NONE ? 2 : 3;
            licence[p] = a;
            return p;
        }
    }

    /**
     * The joins. No part is in itself, so all parts stand in an order in which each comes behind
     * those that are in it: one pass along it carries everything upwards, one back downwards.
     */
    private static final class Joins {
        private final int[] from = new int[JOINS];
        private final int[] to = new int[JOINS];
        private final int[] kind = new int[JOINS];
        private int told;
        /** The joins that were not cut, as bits. */
        private long there;
        private final int[] order = new int[PARTS];
        /** Joins that are there; those into part p stand from begin[p] to before end[p]. */
        private final int[] sorted = new int[JOINS];
        private final int[] begin = new int[PARTS];
        private final int[] end = new int[PARTS];

        Joins() {
            for (int p = 0; p < PARTS; p++) {
                order[p] = p;
            }
        }

        boolean isThere(int j) {
            return within(j, told) && holds(there, j);
        }

        boolean leads(int a, int b) {
            for (int i = begin[b]; i < end[b]; i++) {
                if (from[sorted[i]] == a) {
                    return true;
                }
            }
            return false;
        }

        int add(int a, int b, int k) {
            int j = told;
            told++;
            from[j] = a;
            to[j] = b;
            kind[j] = k;
            there |= 1L << j;
            sortJoins();
            orderParts();
            return j;
        }

        void remove(int j) {
            there &= ~(1L << j);
            // The order of the parts stays right with fewer joins.
            sortJoins();
        }

        private void sortJoins() {
            int n = 0;
            for (int p = 0; p < PARTS; p++) {
                begin[p] = n;
                for (int j = 0; j < told; j++) {
                    if (to[j] == p && holds(there, j) && n < JOINS) {
                        sorted[n] = j;
                        n++;
                    }
                }
                end[p] = n;
            }
        }

        private void orderParts() {
            int placed = 0;
            int n = 0;
            for (int round = 0; round < PARTS && n < PARTS; round++) {
                for (int p = 0; p < PARTS && n < PARTS; p++) {
                    if (!holds(placed, p) && (directlyIn(p) & ~placed) == 0) {
                        order[n] = p;
                        n++;
                        placed |= 1 << p;
                    }
                }
            }
        }

        private int directlyIn(int p) {
            int set = 0;
            for (int i = begin[p]; i < end[p]; i++) {
                set |= 1 << from[sorted[i]];
            }
            return set;
        }

        /** Part p and all that are in it, through however many, by joins of the set live. */
        int allIn(int p, long live) {
            int set = 1 << p;
            for (int k = PARTS - 1; k >= 0; k--) {
                int upper = order[k];
                if (!holds(set, upper)) {
                    continue;
                }
                for (int i = begin[upper]; i < end[upper]; i++) {
                    int j = sorted[i];
                    if (holds(live, j)) {
                        set |= 1 << from[j];
                    }
                }
            }
            return set;
        }

        int countInto(int p) {
            return end[p] - begin[p];
        }

        int countOutOf(int p) {
            int n = 0;
            for (int j = 0; j < told; j++) {
                if (from[j] == p && holds(there, j)) {
                    n++;
                }
            }
            return n;
        }
    }

    /** The changes that were told. */
    private static final class Changes {
        private final int[] what = new int[CHANGES];
        private final int[] which = new int[CHANGES];
        private final int[] licence = new int[CHANGES];
        private final int[] cost = new int[CHANGES];
        private int told;

        int add(int ofWhat, int ofWhich, int l, int itsCost) {
            int c = told;
            told++;
            what[c] = ofWhat;
            which[c] = ofWhich;
            licence[c] = l;
            cost[c] = itsCost;
            return c;
        }

        int priceOf(int set) {
            int sum = 0;
            for (int c = 0; c < told; c++) {
                if (holds(set, c)) {
                    sum += cost[c];
                }
            }
            return sum;
        }

        /** Whether set x goes before set y as the cheapest. */
        boolean isBetter(int x, int y) {
            int byPrice = Integer.compare(priceOf(x), priceOf(y));
            if (byPrice != 0) {
                return byPrice < 0;
            }
            int bySize = Integer.compare(Integer.bitCount(x), Integer.bitCount(y));
            if (bySize != 0) {
                return bySize < 0;
            }
            return (Integer.lowestOneBit(x ^ y) & x) != 0;
        }
    }

    /** What comes to the parts, with the licences and joins that stand or with others. */
    private static final class Flow {
        private final Terms terms;
        private final Parts parts;
        private final Joins joins;
        /** By part: the pairs that have come to it, as the last run found. */
        private final long[] arrived = new long[PARTS];
        private final long[] earlier = new long[PARTS];

        Flow(Terms itsTerms, Parts itsParts, Joins itsJoins) {
            terms = itsTerms;
            parts = itsParts;
            joins = itsJoins;
        }

        /** The pairs that part p brings by shipping s under licence l. */
        long brought(int s, int p, int l) {
            return terms.asked[s] & pairsOf(l) & ~parts.lifted[p];
        }

        void run(int s, int[] licence, long live) {
            for (int k = 0; k < PARTS; k++) {
                int p = joins.order[k];
                arrive(p, brought(s, p, licence[p]), live);
            }
        }

        /** Part p brings the pairs own; those that are in it have got theirs before. */
        void arrive(int p, long own, long live) {
            long all = own;
            for (int i = joins.begin[p]; i < joins.end[p]; i++) {
                int j = joins.sorted[i];
                if (holds(live, j)) {
                    all |= arrived[joins.from[j]] & terms.along[joins.kind[j]];
                }
            }
            arrived[p] = all;
        }

        /** The pairs with which part p quarrels under licence l. */
        long foughtAt(int p, int l) {
            return arrived[p] & terms.fought[l];
        }

        int ofProduct(long live) {
            return parts.told == 0 ? 0 : joins.allIn(parts.top, live);
        }

        int quarrelCount(int[] licence, long live) {
            int ofIt = ofProduct(live);
            int sum = 0;
            for (int p = 0; p < parts.told; p++) {
                if (holds(ofIt, p)) {
                    sum += Long.bitCount(foughtAt(p, licence[p]));
                }
            }
            return sum;
        }

        int quarrelAt(int i) {
            int ofIt = ofProduct(joins.there);
            int before = 0;
            for (int p = 0; p < parts.told; p++) {
                long fought = holds(ofIt, p) ? foughtAt(p, parts.licence[p]) : 0;
                int here = Long.bitCount(fought);
                if (i < before + here) {
                    return p * PAIRS + pairAt(fought, i - before);
                }
                before += here;
            }
            return NONE;
        }

        private static int pairAt(long set, int i) {
            int before = 0;
            for (int pair = 0; pair < PAIRS; pair++) {
                if (holds(set, pair)) {
                    if (before == i) {
                        return pair;
                    }
                    before++;
                }
            }
            return NONE;
        }

        /** The parts of the product to which other pairs come by shipping s than by t. */
        int unlike(int s, int t) {
            run(s, parts.licence, joins.there);
            System.arraycopy(arrived, 0, earlier, 0, PARTS);
            run(t, parts.licence, joins.there);
            int set = 0;
            for (int p = 0; p < PARTS; p++) {
                if (arrived[p] != earlier[p]) {
                    set |= 1 << p;
                }
            }
            return set & ofProduct(joins.there);
        }

        /** How many ways there are to take choices for the parts of the product, NONE if too many. */
        int wayCount() {
            int ofIt = ofProduct(joins.there);
            int ways = 1;
            for (int p = 0; p < parts.told; p++) {
                if (holds(ofIt, p)) {
                    ways *= parts.choiceCount[p];
                }
                // Asked at every step, since the product of all could wrap round.
                if (ways > MOST_WAYS) {
                    return NONE;
                }
            }
            return ways;
        }
    }

    /** To judge: goes through the ways to take choices. */
    private static final class Chooser {
        private final Parts parts;
        private final Joins joins;
        private final Flow flow;
        /** The parts of the product, each behind those that are in it. */
        private final int[] line = new int[PARTS];
        private int length;
        /** By part: the place in its choices, in the way that is tried and in the best so far. */
        private final int[] place = new int[PARTS];
        private final int[] bestPlace = new int[PARTS];
        /** How many quarrels there are at the parts before each position of the line. */
        private final int[] quarrelsBefore = new int[PARTS + 1];
        private int bestQuarrels;
        private int bestPairs;

        Chooser(Parts itsParts, Joins itsJoins, Flow itsFlow) {
            parts = itsParts;
            joins = itsJoins;
            flow = itsFlow;
        }

        /** Takes the best choices; how many quarrels there are with them. */
        int takeBest(int s) {
            lineUp(flow.ofProduct(joins.there));
            bestQuarrels = MORE_THAN_ANY;
            bestPairs = MORE_THAN_ANY;
            int position = 0;
            for (int tried = 0; tried < MOST_WAYS && position != NONE; tried++) {
                int reached = settle(s, position);
                if (reached == length) {
                    keepIfBetter();
                }
                position = advance(Math.min(reached, length - 1));
            }
            takeKept();
            return bestQuarrels;
        }

        private void lineUp(int ofIt) {
            length = 0;
            for (int k = 0; k < PARTS; k++) {
                int p = joins.order[k];
                place[p] = 0;
                if (holds(ofIt, p) && length < PARTS) {
                    line[length] = p;
                    length++;
                }
            }
        }

        /**
         * Finds what comes to the parts from a position of the line on. Parts before it are as in
         * the way tried last. Answers the position at which there are too many quarrels already,
         * or the line's length.
         */
        private int settle(int s, int position) {
            for (int k = position; k < length; k++) {
                int p = line[k];
                int licence = parts.choiceOf(p, place[p]);
                flow.arrive(p, flow.brought(s, p, licence), joins.there);
                quarrelsBefore[k + 1] = quarrelsBefore[k] + Long.bitCount(flow.foughtAt(p, licence));
                if (quarrelsBefore[k + 1] > bestQuarrels) {
                    return k;
                }
            }
            return length;
        }

        /**
         * Goes on to the next way that differs from this one at a position or before it: all
         * places behind that position are 0 then. Answers the first position that changed, or NONE.
         */
        private int advance(int position) {
            for (int k = position; k >= 0; k--) {
                int p = line[k];
                if (place[p] + 1 < parts.choiceCount[p]) {
                    place[p]++;
                    return k;
                }
                place[p] = 0;
            }
            return NONE;
        }

        private void keepIfBetter() {
            int quarrels = quarrelsBefore[length];
            int pairs = Long.bitCount(flow.arrived[parts.top]);
            if (isBetter(quarrels, pairs)) {
                bestQuarrels = quarrels;
                bestPairs = pairs;
                System.arraycopy(place, 0, bestPlace, 0, PARTS);
            }
        }

        private boolean isBetter(int quarrels, int pairs) {
            if (quarrels != bestQuarrels) {
                return quarrels < bestQuarrels;
            }
            if (pairs != bestPairs) {
                return pairs < bestPairs;
            }
            for (int p = 0; p < PARTS; p++) {
                if (place[p] != bestPlace[p]) {
                    return place[p] < bestPlace[p];
                }
            }
            return false;
        }

        private void takeKept() {
            for (int k = 0; k < length; k++) {
                int p = line[k];
                parts.licence[p] = parts.choiceOf(p, bestPlace[p]);
            }
        }
    }

    /** The cheapest: goes through the sets of changes, and leaves all as it is. */
    private static final class Mender {
        private final Parts parts;
        private final Joins joins;
        private final Changes changes;
        private final Flow flow;
        private final int[] licence = new int[PARTS];

        Mender(Parts itsParts, Joins itsJoins, Changes itsChanges, Flow itsFlow) {
            parts = itsParts;
            joins = itsJoins;
            changes = itsChanges;
            flow = itsFlow;
        }

        int cheapestSet(int s) {
            int best = NONE;
            int sets = 1 << changes.told;
            for (int set = 0; set < sets; set++) {
                if ((best == NONE || changes.isBetter(set, best)) && endsQuarrels(s, set)) {
                    best = set;
                }
            }
            return best;
        }

        private boolean endsQuarrels(int s, int set) {
            System.arraycopy(parts.licence, 0, licence, 0, PARTS);
            long live = joins.there;
            // By rising numbers: so of several changes of one part the highest counts.
            for (int c = 0; c < changes.told; c++) {
                if (!holds(set, c)) {
                    continue;
                }
                if (changes.what[c] == CHANGE_OF_LICENCE) {
                    licence[changes.which[c]] = changes.licence[c];
                } else {
                    live &= ~(1L << changes.which[c]);
                }
            }
            flow.run(s, licence, live);
            return flow.quarrelCount(licence, live) == 0;
        }
    }

    /** Finds along which parts a pair came: the way, and notices. */
    private static final class Tracer {
        private final Terms terms;
        private final Parts parts;
        private final Joins joins;
        private final Flow flow;
        /** By part: the fewest joins from it to the part measured from, NONE: none lead there. */
        private final int[] steps = new int[PARTS];

        Tracer(Terms itsTerms, Parts itsParts, Joins itsJoins, Flow itsFlow) {
            terms = itsTerms;
            parts = itsParts;
            joins = itsJoins;
            flow = itsFlow;
        }

        int partOnWay(int s, int pair, int target, int i) {
            measure(pair, target);
            int at = source(s, pair);
            if (at == NONE || i < 0 || i > steps[at]) {
                return NONE;
            }
            for (int k = 0; k < i && at != NONE; k++) {
                at = next(pair, at);
            }
            return at;
        }

        /** The parts that bring ask 0 of their licence to the product. */
        int noticed(int s) {
            int set = 0;
            for (int l = 0; l < LICENCES; l++) {
                int pair = pairOf(l, 0);
                measure(pair, parts.top);
                for (int p = 0; p < parts.told; p++) {
                    if (steps[p] != NONE && brings(s, p, pair)) {
                        set |= 1 << p;
                    }
                }
            }
            return set;
        }

        private boolean brings(int s, int p, int pair) {
            return holds(flow.brought(s, p, parts.licence[p]), pair);
        }

        private boolean goes(int pair, int j) {
            return holds(terms.along[joins.kind[j]], pair);
        }

        private void measure(int pair, int target) {
            for (int p = 0; p < PARTS; p++) {
                steps[p] = NONE;
            }
            steps[target] = 0;
            for (int k = PARTS - 1; k >= 0; k--) {
                int upper = joins.order[k];
                if (steps[upper] != NONE) {
                    measureInto(pair, upper);
                }
            }
        }

        private void measureInto(int pair, int upper) {
            int through = steps[upper] + 1;
            for (int i = joins.begin[upper]; i < joins.end[upper]; i++) {
                int j = joins.sorted[i];
                int lower = joins.from[j];
                if (goes(pair, j) && (steps[lower] == NONE || steps[lower] > through)) {
                    steps[lower] = through;
                }
            }
        }

        private int source(int s, int pair) {
            int best = NONE;
            for (int p = 0; p < parts.told; p++) {
                boolean nearer = steps[p] != NONE && (best == NONE || steps[p] < steps[best]);
                if (nearer && brings(s, p, pair)) {
                    best = p;
                }
            }
            return best;
        }

        private int next(int pair, int at) {
            int best = NONE;
            for (int j = 0; j < joins.told; j++) {
                int upper = joins.to[j];
                boolean onward = joins.isThere(j) && joins.from[j] == at && goes(pair, j)
                        && steps[upper] == steps[at] - 1;
                if (onward && (best == NONE || upper < best)) {
                    best = upper;
                }
            }
            return best;
        }
    }
}
