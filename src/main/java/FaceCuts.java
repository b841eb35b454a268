import java.util.Arrays;

/**
 * Greatest cuts of planar networks by pairing odd faces.
 *
 * All rows are made with the object and used again, so that no call makes objects of its own.
 * What is worked out from the net (faces, weights, ways, pairings, the table of all cuts) is kept
 * until a deed makes it stale.
 */
public final class FaceCuts {
    public static final int NONE = -1;

    private static final int MOST_NODES = 10;
    private static final int MOST_LINKS = 16;
    private static final int MOST_DARTS = 32;
    /* A part with links has two nodes at least, so by Euler's rule it has no more faces than links. */
    private static final int MOST_FACES = 16;
    private static final int MOST_BYTES = 900;
    private static final int MOST_GAIN = 99;
    private static final int MOST_SETS = 1024;
    private static final int MOST_WORTH = MOST_LINKS * MOST_GAIN;
    private static final int MOST_UNDONE = 10;
    private static final int MOST_NUMBERS = 40;
    private static final int MOST_TIMES = 40;
    private static final int MOST_DRAWS = 4;
    private static final int MOST_ASKED_WORTH = 9999;
    private static final int MOST_WEIGHED = 8;
    private static final int WARMTHS = 10;
    private static final int LOTS = 10;
    private static final int TRAYS = 4;
    private static final int SORTS = 4;
    private static final int IMAGES = 2;

    private static final int NO_SUCH = -2;
    private static final int NO_NUMBER = -3;
    private static final int TOO_MANY = -4;
    private static final int NOT_NOW = -5;
    private static final int MISSING = -6;
    private static final int NO_PLACE = -7;
    private static final int CANNOT = -11;
    private static final int FAULTY = -30;
    /* Where an answer may be below 0, the codes lie far off. */
    private static final int OFF = -99000000;

    /* What is worked out, each by a bit of its own and with all that it is worked out from. */
    private static final int SHAPE = 1;
    private static final int WEIGHTS = 2;
    private static final int TABLE_ALONE = 4;
    private static final int WAYS_ALONE = 8;
    private static final int GREATEST_ALONE = 16;
    private static final int LEAST_ALONE = 32;
    private static final int TABLE = TABLE_ALONE | WEIGHTS;
    private static final int WAYS = WAYS_ALONE | SHAPE | WEIGHTS;
    private static final int GREATEST = GREATEST_ALONE | WAYS;
    private static final int LEAST = LEAST_ALONE | WAYS;
    private static final int BY_PAIRING = WAYS_ALONE | GREATEST_ALONE | LEAST_ALONE;
    private static final int BY_WEIGHTS = WEIGHTS | TABLE_ALONE | BY_PAIRING;
    private static final int BY_SHAPE = SHAPE | BY_PAIRING;

    private final byte[] tape = new byte[MOST_BYTES];
    private int tapeSize;
    private int faultKind;
    private int faultPlace = NONE;
    private Plan plan = new Plan();
    private Plan spare = new Plan();
    private final Reader reader = new Reader();
    private final Standing standing = new Standing();
    private final Standing ahead = new Standing();
    private final History history = new History();
    private final Image[] images = new Image[IMAGES];
    private final Tray[] trays = new Tray[TRAYS];
    private final int[] weights = new int[MOST_LINKS];
    private final Shape shape = new Shape();
    private final Ways ways = new Ways();
    private final Pairing greatestPairs;
    private final Pairing leastPairs;
    private final Table table = new Table();
    /* Which of the worked-out things still fit the net as it is. */
    private int fresh;

    public FaceCuts() {
        for (int i = 0; i < IMAGES; i++) {
            images[i] = new Image();
        }
        for (int i = 0; i < TRAYS; i++) {
            trays[i] = new Tray();
        }
        int[] memo = new int[1 << MOST_FACES];
        greatestPairs = new Pairing(memo);
        leastPairs = new Pairing(memo);
    }

    // ---- the net

    public int feed(int a, int b, int c, int d, int e) {
        if (tapeSize + 20 > MOST_BYTES) {
            return NOT_NOW;
        }
        putOnTape(a);
        putOnTape(b);
        putOnTape(c);
        putOnTape(d);
        putOnTape(e);
        return tapeSize;
    }

    private void putOnTape(int word) {
        for (int shift = 24; shift >= 0; shift -= 8) {
            if (tapeSize < MOST_BYTES) {
                tape[tapeSize] = (byte) (word >> shift);
                tapeSize++;
            }
        }
    }

    public int net(int n) {
        if (n < 0 || n > tapeSize) {
            return NO_NUMBER;
        }
        tapeSize = 0;
        boolean good = reader.readText(tape, n, spare);
        faultKind = reader.fault;
        faultPlace = reader.place;
        if (!good) {
            return FAULTY - faultKind;
        }
        Plan old = plan;
        plan = spare;
        spare = old;
        plan.layOut(standing);
        history.forget();
        fresh = 0;
        return plan.lines;
    }

    public int fault(int what) {
        if (what == 0) {
            return faultKind;
        }
        return what == 1 ? faultPlace : NONE;
    }

    public int link(int l, int what) {
        if (!hasLink(l) || what < 0 || what > 3) {
            return NO_SUCH;
        }
        if (what == 0) {
            return plan.from[l];
        }
        if (what == 1) {
            return plan.to[l];
        }
        needShape();
        return shape.faceOf[2 * l + what - 2];
    }

    public int weight(int l) {
        if (!hasLink(l)) {
            return OFF + NO_SUCH;
        }
        need(WEIGHTS);
        return weights[l];
    }

    public int round(int n, int place) {
        if (!hasNode(n)) {
            return NO_SUCH;
        }
        if (place < 0) {
            return NO_NUMBER;
        }
        return place < plan.degree[n] ? standing.rings[n * MOST_LINKS + place] : NONE;
    }

    public int next(int dart) {
        if (dart < 0 || dart >= 2 * plan.links) {
            return NO_SUCH;
        }
        needShape();
        return shape.nextOf[dart];
    }

    private boolean hasLink(int l) {
        return l >= 0 && l < plan.links;
    }

    private boolean hasNode(int n) {
        return n >= 0 && n < plan.nodes;
    }

    // ---- deeds

    public int weigh(int l, int n) {
        if (!canWeigh(l, n)) {
            return OFF + CANNOT;
        }
        history.keep(standing);
        int old = standing.gains[l];
        setGain(l, n);
        return old;
    }

    public int flip(int n) {
        if (!hasNode(n)) {
            return OFF + CANNOT;
        }
        history.keep(standing);
        standing.sides ^= 1 << n;
        return worth();
    }

    public int turn(int n, int place) {
        if (!canTurn(n, place)) {
            return CANNOT;
        }
        history.keep(standing);
        swapPlaces(n, place);
        return twists();
    }

    public int warm(int n) {
        if (!canWarm(n)) {
            return CANNOT;
        }
        history.keep(standing);
        int old = standing.warmth;
        setWarmth(n);
        return old;
    }

    public int fall() {
        history.keep(standing);
        need(WEIGHTS);
        // Each flip raises the worth, so no set of sides comes twice.
        for (int i = 0; i < MOST_SETS; i++) {
            int node = nodeOfMostGain();
            if (node == NONE) {
                break;
            }
            standing.sides ^= 1 << node;
        }
        return worth();
    }

    private int nodeOfMostGain() {
        int most = 0;
        int node = NONE;
        for (int n = 0; n < plan.nodes; n++) {
            int gained = gainOf(n);
            if (gained > most) {
                most = gained;
                node = n;
            }
        }
        return node;
    }

    public int sides() {
        if (!isFlat()) {
            return NOT_NOW;
        }
        need(GREATEST);
        int wanted = shape.sidesOf(plan, greatestCut());
        history.keep(standing);
        int flipped = Integer.bitCount(standing.sides ^ wanted);
        standing.sides = wanted;
        return flipped;
    }

    public int undo(int n) {
        if (n < 1 || n > history.size) {
            return NO_NUMBER;
        }
        history.takeBack(n, standing);
        fresh = 0;
        return history.size;
    }

    public int judge(int tray, int what) {
        if (!hasTray(tray) || what < 0 || what > 3) {
            return NO_SUCH;
        }
        Tray deeds = trays[tray];
        if (deeds.size < 0) {
            return MISSING;
        }
        ahead.takeFrom(standing);
        int done = doDeeds(deeds);
        need(SHAPE | WEIGHTS);
        int answer = judged(what, done, done < deeds.size);
        standing.takeFrom(ahead);
        if (done > 0) {
            fresh = 0;
        }
        return answer;
    }

    private int judged(int what, int done, boolean halted) {
        if (what == 0) {
            return halted ? done : NONE;
        }
        if (what == 1) {
            return halted ? 1 : 0;
        }
        if (what == 2) {
            return worthOfCut(cutBits()) + 10000;
        }
        return shape.twistCount;
    }

    public int perform(int tray) {
        if (!hasTray(tray)) {
            return NO_SUCH;
        }
        if (trays[tray].size < 0) {
            return MISSING;
        }
        ahead.takeFrom(standing);
        int done = doDeeds(trays[tray]);
        if (done > 0) {
            history.keep(ahead);
        }
        return done;
    }

    private int doDeeds(Tray deeds) {
        int done = 0;
        for (int i = 0; i < deeds.size; i++) {
            if (!doDeed(deeds.values[i])) {
                break;
            }
            done++;
        }
        return done;
    }

    public int day(int seed, int times) {
        if (times < 1 || times > MOST_TIMES) {
            return NO_NUMBER;
        }
        ahead.takeFrom(standing);
        int x = seed;
        int done = 0;
        for (int i = 0; i < times; i++) {
            x = drawn(x);
            int sort = (x >>> 16) % 6;
            x = drawn(x);
            int first = x >>> 16;
            int second = 0;
            if (sort > 3) {
                x = drawn(x);
                second = x >>> 16;
            }
            if (doDeed(deedOf(sort, first, second))) {
                done++;
            }
        }
        if (done > 0) {
            history.keep(ahead);
        }
        return done;
    }

    private static int drawn(int x) {
        return 1103515245 * x + 12345;
    }

    private static int deedOf(int sort, int first, int second) {
        if (sort < 2) {
            return first % 10;
        }
        if (sort == 2) {
            return 10 + first % 10;
        }
        if (sort == 3) {
            return 100 + first % 160;
        }
        return 1000 + 1000 * (first % 16) + second % 199;
    }

    private boolean doDeed(long deed) {
        if (deed < 0 || deed > 17198) {
            return false;
        }
        int v = (int) deed;
        if (v < 10) {
            return doFlip(v);
        }
        if (v < 20) {
            setWarmth(v - 10);
            return true;
        }
        if (v >= 100 && v < 260) {
            return doTurn((v - 100) / 16, (v - 100) % 16);
        }
        return v >= 1000 && doWeigh((v - 1000) / 1000, (v - 1000) % 1000 - MOST_GAIN);
    }

    private boolean doFlip(int n) {
        if (!hasNode(n)) {
            return false;
        }
        standing.sides ^= 1 << n;
        return true;
    }

    private boolean doTurn(int n, int place) {
        if (!canTurn(n, place)) {
            return false;
        }
        swapPlaces(n, place);
        return true;
    }

    private boolean doWeigh(int l, int n) {
        if (!canWeigh(l, n)) {
            return false;
        }
        setGain(l, n);
        return true;
    }

    private boolean canWeigh(int l, int n) {
        return hasLink(l) && n >= -MOST_GAIN && n <= MOST_GAIN;
    }

    private boolean canTurn(int n, int place) {
        return hasNode(n) && place >= 0 && place < plan.degree[n] - 1;
    }

    private static boolean canWarm(int n) {
        return n >= 0 && n < WARMTHS;
    }

    private void setGain(int l, int n) {
        standing.gains[l] = n;
        fresh &= ~BY_WEIGHTS;
    }

    private void setWarmth(int n) {
        standing.warmth = n;
        fresh &= ~BY_WEIGHTS;
    }

    private void swapPlaces(int n, int place) {
        int at = n * MOST_LINKS + place;
        int moved = standing.rings[at];
        standing.rings[at] = standing.rings[at + 1];
        standing.rings[at + 1] = moved;
        fresh &= ~BY_SHAPE;
    }

    // ---- faces

    public int faces() {
        needShape();
        return shape.faceCount;
    }

    public int face(int f, int what) {
        if (!hasFace(f) || what < 0 || what > 3) {
            return NO_SUCH;
        }
        if (what == 0) {
            return shape.sizes[f];
        }
        if (what == 1) {
            return shape.leastDarts[f];
        }
        if (what == 2) {
            need(WEIGHTS);
            return shape.oddFaces(goodLinks(1)) >> f & 1;
        }
        return Integer.bitCount(shape.nodesMet[f]);
    }

    public int dart(int f, int i) {
        if (!hasFace(f)) {
            return NO_SUCH;
        }
        if (i < 0) {
            return NO_NUMBER;
        }
        return shape.dartAt(f, i);
    }

    public int parts() {
        needShape();
        return shape.partCount;
    }

    public int twists() {
        needShape();
        return shape.twistCount;
    }

    public int odd() {
        need(SHAPE | WEIGHTS);
        return shape.oddFaces(goodLinks(1));
    }

    public int far(int f, int g) {
        if (!hasFace(f) || !hasFace(g)) {
            return NO_SUCH;
        }
        need(WAYS);
        return ways.heaviness(f, g);
    }

    public int across(int f, int g, int i) {
        if (!hasFace(f) || !hasFace(g)) {
            return NO_SUCH;
        }
        if (i < 0) {
            return NO_NUMBER;
        }
        need(WAYS);
        return ways.crossed(shape, f, g, i);
    }

    /* Works the faces out, so that those who asked may use them. */
    private boolean hasFace(int f) {
        needShape();
        return f >= 0 && f < shape.faceCount;
    }

    private boolean isFlat() {
        needShape();
        return shape.twistCount == 0;
    }

    /* Works out what is asked for and stale; all below rests on what its caller needed. */
    private void need(int things) {
        int stale = things & ~fresh;
        if ((stale & SHAPE) != 0) {
            needShape();
        }
        if ((stale & WEIGHTS) != 0) {
            weighAll();
        }
        if ((stale & TABLE_ALONE) != 0) {
            table.workOut(plan, weights);
        }
        if ((stale & WAYS_ALONE) != 0) {
            ways.workOut(shape, plan.links, weights);
        }
        if ((stale & GREATEST_ALONE) != 0) {
            greatestPairs.workOut(shape, ways, shape.oddFaces(goodLinks(1)));
        }
        if ((stale & LEAST_ALONE) != 0) {
            leastPairs.workOut(shape, ways, shape.oddFaces(goodLinks(-1)));
        }
        fresh |= things;
    }

    private void needShape() {
        if ((fresh & SHAPE) == 0) {
            shape.workOut(plan, standing.rings);
            fresh |= SHAPE;
        }
    }

    private void weighAll() {
        for (int l = 0; l < plan.links; l++) {
            weights[l] = plan.weightOf(l, standing.gains[l], standing.warmth);
        }
    }

    // ---- cuts

    public int partner(int f) {
        if (!hasFace(f)) {
            return NO_SUCH;
        }
        if (!isFlat()) {
            return NOT_NOW;
        }
        need(GREATEST);
        return greatestPairs.partners[f];
    }

    public int join() {
        if (!isFlat()) {
            return NOT_NOW;
        }
        need(GREATEST);
        return greatestPairs.joined;
    }

    public int proof(int what) {
        if (what < 0 || what > 1) {
            return NO_SUCH;
        }
        if (!isFlat()) {
            return NOT_NOW;
        }
        need(GREATEST);
        if (what == 0) {
            return worthOfCut(goodLinks(1));
        }
        int sum = 0;
        for (int l = 0; l < plan.links; l++) {
            if ((greatestPairs.joined >> l & 1) != 0) {
                sum += Math.abs(weights[l]);
            }
        }
        return sum;
    }

    public int greatest(int what) {
        int refused = refusedCut(what);
        if (refused != 0) {
            return refused;
        }
        need(GREATEST);
        return cutAnswer(what, greatestCut());
    }

    public int least(int what) {
        int refused = refusedCut(what);
        if (refused != 0) {
            return refused;
        }
        need(LEAST);
        return cutAnswer(what, goodLinks(-1) ^ leastPairs.joined);
    }

    private int refusedCut(int what) {
        if (what < 0 || what > 2) {
            return OFF + NO_SUCH;
        }
        return isFlat() ? 0 : OFF + NOT_NOW;
    }

    private int cutAnswer(int what, int cut) {
        if (what == 0) {
            return worthOfCut(cut);
        }
        return what == 1 ? cut : shape.sidesOf(plan, cut);
    }

    private int greatestCut() {
        return goodLinks(1) ^ greatestPairs.joined;
    }

    public int worth() {
        need(WEIGHTS);
        return worthOfCut(cutBits());
    }

    public int gain(int n) {
        if (!hasNode(n)) {
            return OFF + NO_SUCH;
        }
        need(WEIGHTS);
        return gainOf(n);
    }

    /* The least cut is the greatest one by weights of the other sign, so both ask here. */
    private int goodLinks(int sign) {
        int bits = 0;
        for (int l = 0; l < plan.links; l++) {
            if (weights[l] * sign > 0) {
                bits |= 1 << l;
            }
        }
        return bits;
    }

    private int cutBits() {
        int bits = 0;
        for (int l = 0; l < plan.links; l++) {
            if (isCut(l)) {
                bits |= 1 << l;
            }
        }
        return bits;
    }

    private boolean isCut(int l) {
        return ((standing.sides >> plan.from[l] ^ standing.sides >> plan.to[l]) & 1) != 0;
    }

    private int worthOfCut(int bits) {
        int sum = 0;
        for (int l = 0; l < plan.links; l++) {
            if ((bits >> l & 1) != 0) {
                sum += weights[l];
            }
        }
        return sum;
    }

    private int gainOf(int n) {
        int sum = 0;
        for (int l = 0; l < plan.links; l++) {
            if (plan.touches(l, n)) {
                sum += isCut(l) ? -weights[l] : weights[l];
            }
        }
        return sum;
    }

    // ---- all cuts

    public int all(int what) {
        if (what < 0 || what > 1) {
            return OFF + NO_SUCH;
        }
        need(TABLE);
        return what == 0 ? table.high : table.low;
    }

    public int best() {
        need(TABLE);
        return table.bestSets();
    }

    public int stuck() {
        need(TABLE);
        return table.stuckSets();
    }

    public int steps() {
        need(TABLE);
        return table.fewestFlips(standing.sides);
    }

    public int climb() {
        need(TABLE);
        return table.fewestWithoutLoss(standing.sides);
    }

    public int longest() {
        need(TABLE);
        return table.longestRise(standing.sides);
    }

    // ---- weighed

    public int warms(int tray) {
        int refused = refusedWeighed(tray);
        return refused != 0 ? refused : warmthsBy(trays[tray]);
    }

    public int ask(int tray) {
        int refused = refusedWeighed(tray);
        return refused != 0 ? refused : linkToAsk(warmthsBy(trays[tray]));
    }

    private int refusedWeighed(int tray) {
        if (!hasTray(tray)) {
            return NO_SUCH;
        }
        Tray told = trays[tray];
        if (told.size < 0) {
            return MISSING;
        }
        if (told.size < 1 || told.size > MOST_WEIGHED) {
            return TOO_MANY;
        }
        for (int i = 0; i < told.size; i++) {
            long v = told.values[i];
            if (v < 0 || v >= 1000L * plan.links || v % 1000 < 1 || v % 1000 > 199) {
                return NO_NUMBER;
            }
        }
        return 0;
    }

    private int warmthsBy(Tray told) {
        int bits = 0;
        for (int warmth = 0; warmth < WARMTHS; warmth++) {
            if (isWeighedSo(told, warmth)) {
                bits |= 1 << warmth;
            }
        }
        return bits;
    }

    private boolean isWeighedSo(Tray told, int warmth) {
        for (int i = 0; i < told.size; i++) {
            int v = (int) told.values[i];
            int l = v / 1000;
            if (!hasLink(l) || plan.weightOf(l, standing.gains[l], warmth) != v % 1000 - 100) {
                return false;
            }
        }
        return true;
    }

    private int linkToAsk(int warmths) {
        int chosen = NONE;
        int fewest = WARMTHS + 1;
        for (int l = 0; l < plan.links && warmths != 0; l++) {
            int alike = mostAlike(l, warmths);
            if (alike < fewest) {
                fewest = alike;
                chosen = l;
            }
        }
        return chosen;
    }

    /* Of each weight the warmths are gathered in a row that the table lends: it is free between calls. */
    private int mostAlike(int l, int warmths) {
        int[] tally = table.clearedTally();
        int most = 0;
        for (int warmth = 0; warmth < WARMTHS; warmth++) {
            if ((warmths >> warmth & 1) != 0) {
                int at = plan.weightOf(l, standing.gains[l], warmth) + MOST_GAIN;
                tally[at]++;
                most = Math.max(most, tally[at]);
            }
        }
        return most;
    }

    // ---- chances

    public int chance(int k, int n, int what) {
        if (what < 0 || what > 1) {
            return NO_SUCH;
        }
        if (k < -MOST_ASKED_WORTH || k > MOST_ASKED_WORTH || n < 0 || n > MOST_DRAWS) {
            return NO_NUMBER;
        }
        need(TABLE);
        int above = table.drawsWorth(standing.sides, n, k);
        return inLowestTerms(above, allDraws(n), what);
    }

    public int mean(int n, int what) {
        if (what < 0 || what > 1) {
            return OFF + NO_SUCH;
        }
        if (n < 0 || n > MOST_DRAWS) {
            return OFF + NO_NUMBER;
        }
        need(TABLE);
        int above = table.worthOfDraws(standing.sides, n);
        return inLowestTerms(above, allDraws(n), what);
    }

    private static int allDraws(int n) {
        int draws = 1;
        for (int i = 0; i < n; i++) {
            draws *= LOTS;
        }
        return draws;
    }

    private static int inLowestTerms(int above, int below, int what) {
        int a = below;
        int b = Math.abs(above);
        // Two rounds of Euclid's rule halve the lesser number at least.
        for (int i = 0; i < 64 && b != 0; i++) {
            int rest = a % b;
            a = b;
            b = rest;
        }
        int shared = Math.max(a, 1);
        return what == 0 ? above / shared : below / shared;
    }

    // ---- trays, images

    public int numbers(int tray, int sort, int n) {
        if (!hasTray(tray) || sort < 0 || sort >= SORTS) {
            return NO_SUCH;
        }
        if (n < 0 || n > MOST_NUMBERS) {
            return NO_NUMBER;
        }
        trays[tray].remake(sort, n);
        return 0;
    }

    public long write(int tray, int i, long v) {
        if (!hasTray(tray)) {
            return NO_SUCH;
        }
        Tray row = trays[tray];
        if (row.size < 0) {
            return MISSING;
        }
        if (i < 0 || i >= row.size) {
            return NO_PLACE;
        }
        row.values[i] = row.cutToSort(v);
        return row.values[i];
    }

    public int lists(int tray, int f) {
        if (!hasTray(tray) || !hasFace(f)) {
            return NO_SUCH;
        }
        Tray row = trays[tray];
        if (row.size < 0) {
            return MISSING;
        }
        int listed = Math.min(row.size, shape.sizes[f]);
        for (int i = 0; i < listed; i++) {
            row.values[i] = shape.dartAt(f, i);
        }
        return listed;
    }

    public int image(int i) {
        if (i < 0 || i >= IMAGES) {
            return NO_SUCH;
        }
        Image made = images[i];
        made.plan.takeFrom(plan);
        made.standing.takeFrom(standing);
        made.made = true;
        return 0;
    }

    public int restore(int i) {
        if (i < 0 || i >= IMAGES) {
            return NO_SUCH;
        }
        Image made = images[i];
        if (!made.made) {
            return NOT_NOW;
        }
        plan.takeFrom(made.plan);
        standing.takeFrom(made.standing);
        history.forget();
        fresh = 0;
        return 0;
    }

    public int count(int what) {
        switch (what) {
            case 0:
                return plan.nodes;
            case 1:
                return plan.links;
            case 2:
                return standing.warmth;
            case 3:
                return standing.sides;
            case 4:
                need(WEIGHTS);
                return goodLinks(1);
            case 5:
                return cutBits();
            case 6:
                return history.size;
            case 7:
                return tapeSize;
            case 8:
                return plan.lines;
            default:
                return NONE;
        }
    }

    private static boolean hasTray(int tray) {
        return tray >= 0 && tray < TRAYS;
    }

    /** What a text tells: no deed changes it. */
    private static final class Plan {
        int nodes;
        int links;
        int lines;
        int warmth;
        final int[] from = new int[MOST_LINKS];
        final int[] to = new int[MOST_LINKS];
        final int[] told = new int[MOST_LINKS];
        final int[] degree = new int[MOST_NODES];
        /* The links of each node's last line round, and how many they are. */
        final int[] firsts = new int[MOST_NODES * MOST_LINKS];
        final int[] firstCount = new int[MOST_NODES];
        final Law weighs = new Law();
        final Law counts = new Law();

        void clear() {
            nodes = 0;
            links = 0;
            lines = 0;
            warmth = 0;
            Arrays.fill(degree, 0);
            Arrays.fill(firstCount, 0);
            weighs.clear();
            counts.clear();
        }

        void takeFrom(Plan other) {
            nodes = other.nodes;
            links = other.links;
            lines = other.lines;
            warmth = other.warmth;
            System.arraycopy(other.from, 0, from, 0, MOST_LINKS);
            System.arraycopy(other.to, 0, to, 0, MOST_LINKS);
            System.arraycopy(other.told, 0, told, 0, MOST_LINKS);
            System.arraycopy(other.degree, 0, degree, 0, MOST_NODES);
            System.arraycopy(other.firsts, 0, firsts, 0, MOST_NODES * MOST_LINKS);
            System.arraycopy(other.firstCount, 0, firstCount, 0, MOST_NODES);
            weighs.takeFrom(other.weighs);
            counts.takeFrom(other.counts);
        }

        void addLink(int a, int b, int gains) {
            if (links < MOST_LINKS) {
                from[links] = a;
                to[links] = b;
                told[links] = gains;
                degree[a]++;
                degree[b]++;
                links++;
            }
        }

        boolean touches(int l, int node) {
            return from[l] == node || to[l] == node;
        }

        boolean liesFirst(int l, int node) {
            for (int i = 0; i < firstCount[node]; i++) {
                if (firsts[node * MOST_LINKS + i] == l) {
                    return true;
                }
            }
            return false;
        }

        void addFirst(int l, int node) {
            if (firstCount[node] < MOST_LINKS) {
                firsts[node * MOST_LINKS + firstCount[node]] = l;
                firstCount[node]++;
            }
        }

        void layOut(Standing standing) {
            standing.warmth = warmth;
            standing.sides = 0;
            System.arraycopy(told, 0, standing.gains, 0, MOST_LINKS);
            for (int node = 0; node < nodes; node++) {
                layRound(node, standing.rings);
            }
        }

        private void layRound(int node, int[] rings) {
            int start = node * MOST_LINKS;
            System.arraycopy(firsts, start, rings, start, firstCount[node]);
            int at = firstCount[node];
            for (int l = 0; l < links && at < MOST_LINKS; l++) {
                if (touches(l, node) && !liesFirst(l, node)) {
                    rings[start + at] = l;
                    at++;
                }
            }
        }

        int weightOf(int l, int gains, int warmthNow) {
            if (counts.size > 0 && counts.value(gains, from[l], to[l], l, warmthNow) == 0) {
                return 0;
            }
            if (weighs.size == 0) {
                return gains;
            }
            int weight = weighs.value(gains, from[l], to[l], l, warmthNow);
            return Math.max(-MOST_GAIN, Math.min(MOST_GAIN, weight));
        }
    }

    /** What deeds change and undoing brings back. */
    private static final class Standing {
        int warmth;
        int sides;
        final int[] gains = new int[MOST_LINKS];
        final int[] rings = new int[MOST_NODES * MOST_LINKS];

        void takeFrom(Standing other) {
            warmth = other.warmth;
            sides = other.sides;
            System.arraycopy(other.gains, 0, gains, 0, MOST_LINKS);
            System.arraycopy(other.rings, 0, rings, 0, MOST_NODES * MOST_LINKS);
        }
    }

    /** How it stood ahead of the latest calls, in a ring so that the eldest is written over. */
    private static final class History {
        int size;
        private int top;
        private final Standing[] kept = new Standing[MOST_UNDONE];

        History() {
            for (int i = 0; i < MOST_UNDONE; i++) {
                kept[i] = new Standing();
            }
        }

        void keep(Standing standing) {
            kept[top].takeFrom(standing);
            top = (top + 1) % MOST_UNDONE;
            size = Math.min(size + 1, MOST_UNDONE);
        }

        void takeBack(int n, Standing standing) {
            top = Math.floorMod(top - n, MOST_UNDONE);
            size = Math.max(size - n, 0);
            standing.takeFrom(kept[top]);
        }

        void forget() {
            size = 0;
        }
    }

    private static final class Image {
        boolean made;
        final Plan plan = new Plan();
        final Standing standing = new Standing();
    }

    private static final class Tray {
        /* Below 0: the tray is missing. */
        int size = -1;
        private int sort;
        final long[] values = new long[MOST_NUMBERS];

        void remake(int newSort, int newSize) {
            sort = newSort;
            size = newSize;
            Arrays.fill(values, 0L);
        }

        long cutToSort(long v) {
            if (sort == 0) {
                return (byte) v;
            }
            if (sort == 1) {
                return (short) v;
            }
            return sort == 2 ? (int) v : v;
        }
    }

    /**
     * A law as steps over a stack. Both sums of an if are worked out and one is chosen: no step can
     * fail or lasts, so this needs no jumps.
     */
    private static final class Law {
        /* Numbers told in the text stand for themselves, all else is below 0. */
        static final int TOLD = -1;
        static final int FROM = -2;
        static final int TO = -3;
        static final int LINK = -4;
        static final int WARM = -5;
        static final int ADD = -6;
        static final int TAKE = -7;
        static final int TIMES = -8;
        static final int SAME = -9;
        static final int LESS = -10;
        static final int MORE = -11;
        static final int AND = -12;
        static final int OR = -13;
        static final int NOT = -14;
        static final int CHOOSE = -15;
        private static final int BOUND = 1000000;
        /* Each of the six nestings, and what is outside them, holds back five values at most. */
        private static final int STACK = 64;

        int size;
        private final int[] steps = new int[MOST_BYTES];
        private final int[] stack = new int[STACK];
        private final int[] facts = new int[5];

        void clear() {
            size = 0;
        }

        void takeFrom(Law other) {
            size = other.size;
            System.arraycopy(other.steps, 0, steps, 0, other.size);
        }

        void add(int step) {
            if (size < MOST_BYTES) {
                steps[size] = step;
                size++;
            }
        }

        int value(int told, int from, int to, int link, int warmth) {
            facts[0] = told;
            facts[1] = from;
            facts[2] = to;
            facts[3] = link;
            facts[4] = warmth;
            int depth = 0;
            for (int i = 0; i < size; i++) {
                int step = steps[i];
                if (step < WARM) {
                    depth = apply(step, depth);
                } else if (depth < STACK) {
                    stack[depth] = step >= 0 ? step : facts[-1 - step];
                    depth++;
                }
            }
            return depth > 0 ? stack[depth - 1] : 0;
        }

        /* How many values the stack has then. */
        private int apply(int step, int depth) {
            if (step == NOT && depth >= 1) {
                stack[depth - 1] = 1 - stack[depth - 1];
                return depth;
            }
            if (step == CHOOSE && depth >= 3) {
                stack[depth - 3] = stack[depth - 3] != 0 ? stack[depth - 2] : stack[depth - 1];
                return depth - 2;
            }
            if (depth < 2) {
                return depth;
            }
            stack[depth - 2] = combined(step, stack[depth - 2], stack[depth - 1]);
            return depth - 1;
        }

        private static int combined(int step, int left, int right) {
            switch (step) {
                case SAME:
                    return left == right ? 1 : 0;
                case LESS:
                    return left < right ? 1 : 0;
                case MORE:
                    return left > right ? 1 : 0;
                case AND:
                    return left & right;
                case OR:
                    return left | right;
                default:
                    long sum = step == TIMES ? (long) left * right : step == TAKE ? left - right : left + right;
                    return (int) Math.max(-BOUND, Math.min(BOUND, sum));
            }
        }
    }

    /** Reads a text token by token; the first token that does not fit tells the fault. */
    private static final class Reader {
        private static final int MOST_NESTED = 6;
        private static final int END = 0;
        private static final int WORD = 1;
        private static final int NUMBER = 2;
        private static final int SIGN = 3;
        private static final int WRONG = 4;
        private static final String SIGNS = ";:+-*()[]=<>";

        int fault;
        int place = NONE;
        private byte[] text = new byte[0];
        private int length;
        private int start;
        private int end;
        private int sort;
        private int value;
        private Plan plan = new Plan();
        private Law law = plan.weighs;

        boolean readText(byte[] bytes, int size, Plan into) {
            text = bytes;
            length = Math.min(size, bytes.length);
            plan = into;
            plan.clear();
            fault = 0;
            place = NONE;
            end = 0;
            advance();
            if (!readHead()) {
                return false;
            }
            for (int i = 0; i < length && sort != END; i++) {
                if (!readLine() || !takeSign(';')) {
                    return false;
                }
                plan.lines++;
            }
            return true;
        }

        private boolean readHead() {
            if (!takeWord("net") || !takeWord("warm")) {
                return false;
            }
            int warmth = takeNumber(WARMTHS - 1);
            if (warmth < 0 || !takeSign(';')) {
                return false;
            }
            plan.warmth = warmth;
            plan.lines = 1;
            return true;
        }

        private boolean readLine() {
            if (isWord("node")) {
                return readNode();
            }
            if (isWord("link")) {
                return readLink();
            }
            if (isWord("round")) {
                return readRound();
            }
            if (isWord("weighs")) {
                return startLaw(plan.weighs) && readSum(0);
            }
            if (isWord("counts")) {
                return startLaw(plan.counts) && readTruth(0);
            }
            return refuse(2);
        }

        private boolean readNode() {
            if (plan.nodes >= MOST_NODES) {
                return refuse(4);
            }
            plan.nodes++;
            advance();
            return true;
        }

        private boolean readLink() {
            if (plan.links >= MOST_LINKS) {
                return refuse(4);
            }
            advance();
            int from = takeNumber(plan.nodes - 1);
            if (from < 0) {
                return false;
            }
            if (sort == NUMBER && value == from) {
                return refuse(3);
            }
            int to = takeNumber(plan.nodes - 1);
            if (to < 0) {
                return false;
            }
            boolean loses = isWord("loses");
            if (!loses && !isWord("gains")) {
                return refuse(2);
            }
            advance();
            int much = takeNumber(MOST_GAIN);
            if (much < 0) {
                return false;
            }
            plan.addLink(from, to, loses ? -much : much);
            return true;
        }

        private boolean readRound() {
            advance();
            int node = takeNumber(plan.nodes - 1);
            if (node < 0) {
                return false;
            }
            plan.firstCount[node] = 0;
            for (int i = 0; i <= MOST_LINKS && sort == NUMBER; i++) {
                int l = value;
                if (l >= plan.links || !plan.touches(l, node) || plan.liesFirst(l, node)) {
                    return refuse(3);
                }
                plan.addFirst(l, node);
                advance();
            }
            return true;
        }

        private boolean startLaw(Law which) {
            advance();
            law = which;
            law.clear();
            return takeSign(':');
        }

        private boolean readSum(int depth) {
            if (!readTerm(depth)) {
                return false;
            }
            for (int i = 0; i < length && (isSign('+') || isSign('-')); i++) {
                int step = isSign('+') ? Law.ADD : Law.TAKE;
                advance();
                if (!readTerm(depth)) {
                    return false;
                }
                law.add(step);
            }
            return true;
        }

        private boolean readTerm(int depth) {
            if (!readAtom(depth)) {
                return false;
            }
            for (int i = 0; i < length && isSign('*'); i++) {
                advance();
                if (!readAtom(depth)) {
                    return false;
                }
                law.add(Law.TIMES);
            }
            return true;
        }

        private boolean readAtom(int depth) {
            if (isSign('(')) {
                return nests(depth) && readSum(depth + 1) && takeSign(')');
            }
            if (isWord("if")) {
                return nests(depth) && readChoice(depth + 1);
            }
            int step = plainAtom();
            if (step == Law.CHOOSE) {
                return refuse(2);
            }
            law.add(step);
            advance();
            return true;
        }

        /* Law.CHOOSE: the token is no atom. */
        private int plainAtom() {
            if (sort == NUMBER) {
                return value;
            }
            if (isWord("told")) {
                return Law.TOLD;
            }
            if (isWord("from")) {
                return Law.FROM;
            }
            if (isWord("to")) {
                return Law.TO;
            }
            if (isWord("link")) {
                return Law.LINK;
            }
            return isWord("warm") ? Law.WARM : Law.CHOOSE;
        }

        private boolean readChoice(int depth) {
            if (!readTruth(depth) || !takeWord("then") || !readSum(depth)) {
                return false;
            }
            if (!takeWord("else") || !readSum(depth) || !takeWord("end")) {
                return false;
            }
            law.add(Law.CHOOSE);
            return true;
        }

        private boolean readTruth(int depth) {
            if (!readBoth(depth)) {
                return false;
            }
            for (int i = 0; i < length && isWord("or"); i++) {
                advance();
                if (!readBoth(depth)) {
                    return false;
                }
                law.add(Law.OR);
            }
            return true;
        }

        private boolean readBoth(int depth) {
            if (!readUnit(depth)) {
                return false;
            }
            for (int i = 0; i < length && isWord("and"); i++) {
                advance();
                if (!readUnit(depth)) {
                    return false;
                }
                law.add(Law.AND);
            }
            return true;
        }

        private boolean readUnit(int depth) {
            if (isSign('[')) {
                return nests(depth) && readTruth(depth + 1) && takeSign(']');
            }
            if (isWord("not")) {
                if (!nests(depth) || !readUnit(depth + 1)) {
                    return false;
                }
                law.add(Law.NOT);
                return true;
            }
            return readSum(depth) && readComparison(depth);
        }

        private boolean readComparison(int depth) {
            int step = Law.SAME;
            if (isSign('<')) {
                step = Law.LESS;
            } else if (isSign('>')) {
                step = Law.MORE;
            } else if (!isSign('=')) {
                return refuse(2);
            }
            advance();
            if (!readSum(depth)) {
                return false;
            }
            law.add(step);
            return true;
        }

        /* Goes behind a token that nests, if it does so no deeper than it may. */
        private boolean nests(int depth) {
            if (depth >= MOST_NESTED) {
                return refuse(4);
            }
            advance();
            return true;
        }

        private boolean refuse(int kind) {
            fault = sort == WRONG ? 1 : kind;
            place = start;
            return false;
        }

        private boolean takeWord(String word) {
            if (!isWord(word)) {
                return refuse(2);
            }
            advance();
            return true;
        }

        private boolean takeSign(char sign) {
            if (!isSign(sign)) {
                return refuse(2);
            }
            advance();
            return true;
        }

        /* Below 0: it was refused. */
        private int takeNumber(int most) {
            if (sort != NUMBER) {
                refuse(2);
                return -1;
            }
            int taken = value;
            if (taken > most) {
                refuse(3);
                return -1;
            }
            advance();
            return taken;
        }

        private boolean isSign(char sign) {
            return sort == SIGN && value == sign;
        }

        private boolean isWord(String word) {
            if (sort != WORD || end - start != word.length()) {
                return false;
            }
            for (int i = 0; i < word.length(); i++) {
                if (byteAt(start + i) != word.charAt(i)) {
                    return false;
                }
            }
            return true;
        }

        private void advance() {
            start = end;
            while (start < length && isBlank(byteAt(start))) {
                start++;
            }
            end = start;
            int first = byteAt(start);
            if (first < 0) {
                sort = END;
            } else if (isLetter(first)) {
                passWord();
            } else if (isDigit(first)) {
                passNumber();
            } else {
                end++;
                sort = SIGNS.indexOf((char) first) >= 0 ? SIGN : WRONG;
                value = first;
            }
        }

        private void passWord() {
            sort = WORD;
            while (end < length && isLetter(byteAt(end))) {
                end++;
            }
        }

        private void passNumber() {
            value = 0;
            while (end < length && isDigit(byteAt(end))) {
                if (end - start < 3) {
                    value = value * 10 + byteAt(end) - '0';
                }
                end++;
            }
            sort = end - start > 3 ? WRONG : NUMBER;
        }

        /* Below 0: the text has ended. */
        private int byteAt(int at) {
            return at >= 0 && at < length ? text[at] & 255 : -1;
        }

        private static boolean isBlank(int c) {
            return c == 10 || c == 32;
        }

        private static boolean isLetter(int c) {
            return c >= 'a' && c <= 'z';
        }

        private static boolean isDigit(int c) {
            return c >= '0' && c <= '9';
        }
    }

    /** Faces and parts, as links lie round nodes now. */
    private static final class Shape {
        int faceCount;
        int partCount;
        int twistCount;
        final int[] nextOf = new int[MOST_DARTS];
        final int[] faceOf = new int[MOST_DARTS];
        final int[] leastDarts = new int[MOST_FACES];
        final int[] sizes = new int[MOST_FACES];
        final int[] nodesMet = new int[MOST_FACES];
        /* Of each node the least node of its part. */
        private final int[] partOf = new int[MOST_NODES];

        void workOut(Plan plan, int[] rings) {
            int bare = 0;
            for (int node = 0; node < plan.nodes; node++) {
                linkUp(plan, rings, node);
                if (plan.degree[node] == 0) {
                    bare++;
                }
            }
            walkFaces(plan);
            findParts(plan);
            twistCount = (2 * partCount - plan.nodes + plan.links - faceCount - bare) / 2;
        }

        private void linkUp(Plan plan, int[] rings, int node) {
            int degree = plan.degree[node];
            for (int i = 0; i < degree; i++) {
                int came = rings[node * MOST_LINKS + i];
                int goes = rings[node * MOST_LINKS + (i + 1 < degree ? i + 1 : 0)];
                int in = plan.to[came] == node ? 2 * came : 2 * came + 1;
                nextOf[in] = plan.from[goes] == node ? 2 * goes : 2 * goes + 1;
            }
        }

        private void walkFaces(Plan plan) {
            int darts = 2 * plan.links;
            Arrays.fill(faceOf, NONE);
            faceCount = 0;
            for (int dart = 0; dart < darts; dart++) {
                if (faceOf[dart] == NONE && faceCount < MOST_FACES) {
                    walkFace(plan, dart);
                    faceCount++;
                }
            }
        }

        private void walkFace(Plan plan, int least) {
            int dart = least;
            int size = 0;
            int met = 0;
            for (int i = 0; i < MOST_DARTS && faceOf[dart] == NONE; i++) {
                faceOf[dart] = faceCount;
                met |= 1 << (dart % 2 == 0 ? plan.from[dart / 2] : plan.to[dart / 2]);
                size++;
                dart = nextOf[dart];
            }
            leastDarts[faceCount] = least;
            sizes[faceCount] = size;
            nodesMet[faceCount] = met;
        }

        private void findParts(Plan plan) {
            for (int node = 0; node < plan.nodes; node++) {
                partOf[node] = node;
            }
            partCount = plan.nodes;
            for (int l = 0; l < plan.links; l++) {
                int one = partOf[plan.from[l]];
                int other = partOf[plan.to[l]];
                if (one != other) {
                    partCount--;
                    rename(Math.max(one, other), Math.min(one, other), plan.nodes);
                }
            }
        }

        private void rename(int old, int now, int nodes) {
            for (int node = 0; node < nodes; node++) {
                if (partOf[node] == old) {
                    partOf[node] = now;
                }
            }
        }

        int dartAt(int f, int i) {
            if (i >= sizes[f]) {
                return NONE;
            }
            int dart = leastDarts[f];
            for (int k = 0; k < i; k++) {
                dart = nextOf[dart];
            }
            return dart;
        }

        /* A link with both darts in one face counts twice there, which leaves it as it was. */
        int oddFaces(int good) {
            int bits = 0;
            for (int l = 0; l < MOST_LINKS; l++) {
                if ((good >> l & 1) != 0) {
                    bits ^= 1 << faceOf[2 * l] ^ 1 << faceOf[2 * l + 1];
                }
            }
            return bits;
        }

        /* The face that a link parts from a face; NONE if it parts none from it. */
        int beyond(int l, int f) {
            int one = faceOf[2 * l];
            int other = faceOf[2 * l + 1];
            if (one == other) {
                return NONE;
            }
            if (one == f) {
                return other;
            }
            return other == f ? one : NONE;
        }

        int sidesOf(Plan plan, int cut) {
            int known = 0;
            for (int node = 0; node < plan.nodes; node++) {
                if (partOf[node] == node) {
                    known |= 1 << node;
                }
            }
            int sides = 0;
            // Each round reaches one node more at least in each part that isn't whole yet.
            for (int i = 0; i < plan.nodes; i++) {
                for (int l = 0; l < plan.links; l++) {
                    int from = plan.from[l];
                    int to = plan.to[l];
                    int crossed = cut >> l & 1;
                    if ((known >> from & 1) != 0 && (known >> to & 1) == 0) {
                        known |= 1 << to;
                        sides |= (sides >> from & 1 ^ crossed) << to;
                    } else if ((known >> to & 1) != 0 && (known >> from & 1) == 0) {
                        known |= 1 << from;
                        sides |= (sides >> to & 1 ^ crossed) << from;
                    }
                }
            }
            return sides;
        }
    }

    /** The lightest ways between all faces. */
    private static final class Ways {
        /* A way's cost: how heavy it is times SCALE, and its links. All ways of a pairing cross fewer than SCALE. */
        private static final int SCALE = 1024;
        static final int NO_WAY = 1 << 29;

        final int[][] costs = new int[MOST_FACES][MOST_FACES];
        private final int[] crossings = new int[MOST_LINKS];
        private int links;

        void workOut(Shape shape, int linkCount, int[] weights) {
            links = linkCount;
            int faces = shape.faceCount;
            for (int f = 0; f < faces; f++) {
                Arrays.fill(costs[f], NO_WAY);
                costs[f][f] = 0;
            }
            for (int l = 0; l < links; l++) {
                crossings[l] = Math.abs(weights[l]) * SCALE + 1;
                int one = shape.faceOf[2 * l];
                int other = shape.faceOf[2 * l + 1];
                if (one != other && crossings[l] < costs[one][other]) {
                    costs[one][other] = crossings[l];
                    costs[other][one] = crossings[l];
                }
            }
            for (int by = 0; by < faces; by++) {
                goBy(by, faces);
            }
        }

        private void goBy(int by, int faces) {
            for (int f = 0; f < faces; f++) {
                int head = costs[f][by];
                for (int g = 0; g < faces && head < NO_WAY; g++) {
                    costs[f][g] = Math.min(costs[f][g], head + costs[by][g]);
                }
            }
        }

        int heaviness(int f, int g) {
            return costs[f][g] < NO_WAY ? costs[f][g] / SCALE : NONE;
        }

        /* Each link costs more than nothing, so the least that begins a lightest way begins the one that is meant. */
        private int firstLink(Shape shape, int f, int g) {
            if (f == g || costs[f][g] >= NO_WAY) {
                return NONE;
            }
            for (int l = 0; l < links; l++) {
                int beyond = shape.beyond(l, f);
                if (beyond != NONE && crossings[l] + costs[beyond][g] == costs[f][g]) {
                    return l;
                }
            }
            return NONE;
        }

        int crossed(Shape shape, int f, int g, int i) {
            if (i >= MOST_LINKS) {
                return NONE;
            }
            int at = f;
            int l = firstLink(shape, at, g);
            for (int k = 0; k < i && l != NONE; k++) {
                at = shape.beyond(l, at);
                l = firstLink(shape, at, g);
            }
            return l;
        }

        int crossedBits(Shape shape, int f, int g) {
            int bits = 0;
            int at = f;
            for (int k = 0; k < MOST_LINKS && at != g; k++) {
                int l = firstLink(shape, at, g);
                if (l == NONE) {
                    break;
                }
                bits |= 1 << l;
                at = shape.beyond(l, at);
            }
            return bits;
        }
    }

    /** Odd faces paired by lightest ways, and the join that these make. */
    private static final class Pairing {
        private static final int MOST_PAIRS = MOST_FACES / 2;

        int joined;
        final int[] partners = new int[MOST_FACES];
        private int[][] costs = new int[0][0];
        /* By sets of faces, as bits among the odd ones: the least cost to pair them; below 0 if not known yet. */
        private final int[] memo;
        private final int[] oddOnes = new int[MOST_FACES];
        private int oddCount;

        Pairing(int[] memo) {
            this.memo = memo;
        }

        void workOut(Shape shape, Ways ways, int oddBits) {
            costs = ways.costs;
            oddCount = 0;
            for (int f = 0; f < MOST_FACES; f++) {
                partners[f] = NONE;
                if ((oddBits >> f & 1) != 0) {
                    oddOnes[oddCount] = f;
                    oddCount++;
                }
            }
            int whole = (1 << oddCount) - 1;
            Arrays.fill(memo, 0, whole + 1, -1);
            joined = 0;
            int left = whole;
            for (int i = 0; i < MOST_PAIRS && left != 0; i++) {
                int first = Integer.numberOfTrailingZeros(left);
                int second = leastPartner(left, first);
                if (second == NONE) {
                    break;
                }
                int f = oddOnes[first];
                int g = oddOnes[second];
                partners[f] = g;
                partners[g] = f;
                joined ^= ways.crossedBits(shape, f, g);
                left &= ~(1 << first | 1 << second);
            }
        }

        private int leastPartner(int left, int first) {
            int due = leastCost(left, 0);
            for (int second = first + 1; second < oddCount; second++) {
                if ((left >> second & 1) != 0 && costWith(left, first, second, 0) == due) {
                    return second;
                }
            }
            return NONE;
        }

        private int leastCost(int left, int depth) {
            if (left == 0 || depth > MOST_PAIRS) {
                return 0;
            }
            if (memo[left] >= 0) {
                return memo[left];
            }
            int first = Integer.numberOfTrailingZeros(left);
            int least = Ways.NO_WAY;
            for (int second = first + 1; second < oddCount; second++) {
                if ((left >> second & 1) != 0) {
                    least = Math.min(least, costWith(left, first, second, depth));
                }
            }
            memo[left] = least;
            return least;
        }

        private int costWith(int left, int first, int second, int depth) {
            int cost = costs[oddOnes[first]][oddOnes[second]];
            if (cost >= Ways.NO_WAY) {
                return Ways.NO_WAY;
            }
            int rest = leastCost(left & ~(1 << first | 1 << second), depth + 1);
            return Math.min(cost + rest, Ways.NO_WAY);
        }
    }

    /** What each set of sides is worth, and what follows from that. */
    private static final class Table {
        int high;
        int low;
        private int nodes;
        private int sets;
        private final int[] worths = new int[MOST_SETS];
        private final int[] lengths = new int[MOST_SETS];
        private final int[] order = new int[MOST_SETS];
        private final int[] draws = new int[MOST_SETS];
        private final int[] tally = new int[2 * MOST_WORTH + 2];

        void workOut(Plan plan, int[] weights) {
            nodes = plan.nodes;
            sets = 1 << nodes;
            high = 0;
            low = 0;
            for (int set = 0; set < sets; set++) {
                int sum = 0;
                for (int l = 0; l < plan.links; l++) {
                    if (((set >> plan.from[l] ^ set >> plan.to[l]) & 1) != 0) {
                        sum += weights[l];
                    }
                }
                worths[set] = sum;
                high = Math.max(high, sum);
                low = Math.min(low, sum);
            }
        }

        /* A row with a place for each weight, all 0. */
        int[] clearedTally() {
            Arrays.fill(tally, 0, 2 * MOST_GAIN + 1, 0);
            return tally;
        }

        int bestSets() {
            int found = 0;
            for (int set = 0; set < sets; set++) {
                if (worths[set] == high) {
                    found++;
                }
            }
            return found;
        }

        int stuckSets() {
            int found = 0;
            for (int set = 0; set < sets; set++) {
                if (!canRise(set)) {
                    found++;
                }
            }
            return found;
        }

        private boolean canRise(int set) {
            for (int node = 0; node < nodes; node++) {
                if (worths[set ^ 1 << node] > worths[set]) {
                    return true;
                }
            }
            return false;
        }

        int fewestFlips(int sides) {
            int fewest = nodes;
            for (int set = 0; set < sets; set++) {
                if (worths[set] == high) {
                    fewest = Math.min(fewest, Integer.bitCount(set ^ sides));
                }
            }
            return fewest;
        }

        int fewestWithoutLoss(int sides) {
            Arrays.fill(lengths, 0, sets, NONE);
            lengths[sides] = 0;
            order[0] = sides;
            int reached = 1;
            for (int i = 0; i < reached && i < sets; i++) {
                int set = order[i];
                if (worths[set] == high) {
                    return lengths[set];
                }
                for (int node = 0; node < nodes; node++) {
                    int other = set ^ 1 << node;
                    if (lengths[other] == NONE && worths[other] >= worths[set] && reached < sets) {
                        lengths[other] = lengths[set] + 1;
                        order[reached] = other;
                        reached++;
                    }
                }
            }
            return NONE;
        }

        /* From the worthiest set downward, so that all to which a flip could rise are known. */
        int longestRise(int sides) {
            sortByWorth();
            for (int i = sets - 1; i >= 0; i--) {
                int set = order[i];
                int longest = 0;
                for (int node = 0; node < nodes; node++) {
                    int other = set ^ 1 << node;
                    if (worths[other] > worths[set]) {
                        longest = Math.max(longest, lengths[other] + 1);
                    }
                }
                lengths[set] = longest;
                if (set == sides) {
                    break;
                }
            }
            return lengths[sides];
        }

        private void sortByWorth() {
            Arrays.fill(tally, 0, high - low + 2, 0);
            for (int set = 0; set < sets; set++) {
                tally[worths[set] - low + 1]++;
            }
            for (int i = 1; i <= high - low; i++) {
                tally[i] += tally[i - 1];
            }
            for (int set = 0; set < sets; set++) {
                int at = worths[set] - low;
                order[tally[at]] = set;
                tally[at]++;
            }
        }

        int drawsWorth(int sides, int n, int k) {
            drawLots(sides, n);
            int found = 0;
            for (int set = 0; set < sets; set++) {
                if (worths[set] >= k) {
                    found += draws[set];
                }
            }
            return found;
        }

        int worthOfDraws(int sides, int n) {
            drawLots(sides, n);
            int sum = 0;
            for (int set = 0; set < sets; set++) {
                sum += worths[set] * draws[set];
            }
            return sum;
        }

        private void drawLots(int sides, int n) {
            Arrays.fill(draws, 0, sets, 0);
            draws[sides] = 1;
            for (int i = 0; i < n; i++) {
                System.arraycopy(draws, 0, order, 0, sets);
                for (int set = 0; set < sets; set++) {
                    draws[set] = order[set] * (LOTS - nodes);
                }
                for (int set = 0; set < sets; set++) {
                    spread(set, order[set]);
                }
            }
        }

        private void spread(int set, int times) {
            for (int node = 0; node < nodes && times != 0; node++) {
                draws[set ^ 1 << node] += times;
            }
        }
    }
}
