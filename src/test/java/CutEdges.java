/** Cuts by sides, all cuts, warmths by weights, chances, sentence by sentence; promises 32 to 43. */
final class CutEdges {
    private static final String TEN = Nets.TEN_NODES;
    /** From the sides {0, 1} each flip gains 0, and yet it isn't one of the greatest. */
    private static final String SQUARE = "net warm 0;node;node;node;node;link 0 1 gains 1;link 1 2 gains 1;link 2 3 gains 1;link 3 0 gains 1;";
    /** A row 3, 4, 1, 0, 2: nodes 1 and 4 would be enough, but either of them loses first. */
    private static final String ROW = "net warm 0;node;node;node;node;node;link 3 4 gains 2;link 4 1 loses 4;link 1 0 gains 3;link 0 2 loses 1;";
    /** Pairs that are bound fast by links that lose: a pair can't cross one by one without loss. */
    private static final String BOUND = "net warm 0;node;node;node;node;link 0 1 loses 9;link 2 3 loses 9;link 0 2 gains 2;link 1 3 gains 2;";
    /** Link 0 weighs 1, link 1 weighs 1 below warmth 5, else 2, links 2 and 3 as much as the warmth. */
    private static final String FOUR = "net warm 7;node;node;" + "link 0 1 gains 1;".repeat(4)
        + "weighs:if link=0 then told else if link=1 then if warm<5 then 1 else 2 end else warm end end;";
    private static final int OFF = -99000000;
    private static final int LOW = Integer.MIN_VALUE;
    private static final int HIGH = Integer.MAX_VALUE;

    private CutEdges() {
    }

    static void run() {
        worth();
        gain();
        all();
        best();
        stuck();
        steps();
        climb();
        longest();
        warms();
        warmsRefused();
        ask();
        chance();
        chanceRefused();
        mean();
    }

    private static void due(String sentence, long got, long want) {
        Heads.due(sentence, got, want);
    }

    private static String path() {
        StringBuilder s = new StringBuilder(TEN);
        for (int v = 0; v < 9; v++) {
            s.append("link ").append(v).append(' ').append(v + 1).append(" gains 1;");
        }
        return s.toString();
    }

    // ---- promises 32, 33

    private static void worth() {
        Heads.head("Promise 32: worth");
        due("no nodes", new FaceCuts().worth(), 0);
        FaceCuts x = Nets.of(Nets.TRIANGLE);
        int[] want = {0, 9, 8, 7, 7, 8, 9, 0};
        for (int sides = 0; sides < 8; sides++) {
            for (int v = 0; v < 3; v++) {
                if ((x.count(3) >> v & 1) != (sides >> v & 1)) {
                    x.flip(v);
                }
            }
            due("by sides " + sides, x.worth(), want[sides]);
        }
        FaceCuts most = Nets.of(Nets.ringOfSixteen(99));
        most.flip(1);
        due("the most there is", most.worth(), 1584);
        FaceCuts least = Nets.of(Nets.ringOfSixteen(-99));
        least.flip(0);
        due("the least there is", least.worth(), -1584);
        least.weigh(15, 99);
        due("weights of either sign, added", least.worth(), 99 - 15 * 99);
        FaceCuts law = Nets.of(FOUR);
        law.flip(0);
        due("weights, not what links gain", law.worth(), 1 + 2 + 7 + 7);
        FaceCuts twisted = Nets.of(Nets.TWISTED);
        twisted.flip(3);
        due("not flat, too", twisted.worth(), 9);
        Twins.unchanged("asked", Twins::rich, y -> y.worth(), 0);
    }

    private static void gain() {
        Heads.head("Promise 33: gain");
        FaceCuts x = Nets.of(Nets.WHEEL);
        due("the hub", x.gain(0), 8);
        due("the rim", x.gain(8), 3);
        due("without links", x.gain(9), 0);
        x.flip(0);
        due("back", x.gain(0), -8);
        due("one cut, two not", x.gain(8), 1);
        for (int n : new int[] {-1, 10, LOW, HIGH}) {
            due("no node " + n, x.gain(n), OFF - 2);
        }
        due("behind the last of three", Nets.of(Nets.TRIANGLE).gain(3), OFF - 2);
        due("the last of three", Nets.of(Nets.TRIANGLE).gain(2), 7);
        due("the most there is", Nets.of(Nets.ringOfSixteen(99)).gain(1), 1584);
        due("the least there is", Nets.of(Nets.ringOfSixteen(-99)).gain(0), -1584);
        due("by weights", Nets.of(FOUR).gain(1), 17);
        Twins.unchanged("asked", Twins::rich, y -> y.gain(1), 20);
        Twins.unchanged("no node", Twins::rich, y -> y.gain(3), OFF - 2);
    }

    // ---- promises 34 to 39

    private static void all() {
        Heads.head("Promise 34: all");
        int[][] want = {{9, 0}, {12, 0}, {9, 0}, {4, 0}, {5, -5}, {4, -18}, {20, 0}};
        String[] nets = {Nets.TRIANGLE, Nets.WHEEL, path(), SQUARE, ROW, BOUND, Nets.TWISTED};
        for (int i = 0; i < nets.length; i++) {
            due("the greatest worth, net " + i, Nets.of(nets[i]).all(0), want[i][0]);
            due("the least worth, net " + i, Nets.of(nets[i]).all(1), want[i][1]);
        }
        due("no nodes", new FaceCuts().all(0) + new FaceCuts().all(1), 0);
        due("no links", Nets.of(TEN).all(0) + Nets.of(TEN).all(1), 0);
        due("the most there is", Nets.of(Nets.ringOfSixteen(99)).all(0), 1584);
        due("the least of the most", Nets.of(Nets.ringOfSixteen(99)).all(1), 0);
        due("the least there is", Nets.of(Nets.ringOfSixteen(-99)).all(1), -1584);
        due("the greatest of the least", Nets.of(Nets.ringOfSixteen(-99)).all(0), 0);
        for (int what : new int[] {-1, 2, LOW, HIGH}) {
            due("no what " + what, Nets.of(SQUARE).all(what), OFF - 2);
        }
        Twins.unchanged("no what", Twins::rich, y -> y.all(2), OFF - 2);
    }

    private static void best() {
        Heads.head("Promise 35: best");
        due("no nodes", new FaceCuts().best(), 1);
        due("ten nodes without links", Nets.of(TEN).best(), 1024);
        due("a triangle", Nets.of(Nets.TRIANGLE).best(), 2);
        due("a wheel", Nets.of(Nets.WHEEL).best(), 8);
        due("a square", Nets.of(SQUARE).best(), 2);
        due("a row", Nets.of(ROW).best(), 2);
        due("pairs", Nets.of(BOUND).best(), 2);
        due("like links", Nets.of("net warm 0;node;node;node;link 0 1 gains 2;link 1 2 gains 2;link 2 0 gains 2;").best(), 6);
        due("none better than no links", Nets.of(Nets.ringOfSixteen(-1)).best(), 2);
        due("not flat", Nets.of(Nets.TWISTED).best(), 2);
    }

    private static void stuck() {
        Heads.head("Promise 36: stuck");
        due("no nodes", new FaceCuts().stuck(), 1);
        due("ten nodes without links", Nets.of(TEN).stuck(), 1024);
        due("a triangle", Nets.of(Nets.TRIANGLE).stuck(), 2);
        due("a square: those where each flip gains 0, too", Nets.of(SQUARE).stuck(), 6);
        due("pairs: those from which it can't be come to", Nets.of(BOUND).stuck(), 4);
        due("a link that gains 0", Nets.of("net warm 0;node;node;link 0 1 gains 0;").stuck(), 4);
        due("a link that gains 1", Nets.of("net warm 0;node;node;link 0 1 gains 1;").stuck(), 2);
        due("a link that loses 1", Nets.of("net warm 0;node;node;link 0 1 loses 1;").stuck(), 2);
    }

    private static void steps() {
        Heads.head("Promise 37: steps");
        due("no nodes", new FaceCuts().steps(), 0);
        due("all are", Nets.of(TEN).steps(), 0);
        due("a triangle", Nets.of(Nets.TRIANGLE).steps(), 1);
        due("a wheel", Nets.of(Nets.WHEEL).steps(), 4);
        due("a path of ten", Nets.of(path()).steps(), 5);
        due("a row: with loss", Nets.of(ROW).steps(), 2);
        due("pairs: with loss", Nets.of(BOUND).steps(), 2);
        FaceCuts x = Nets.of(SQUARE);
        due("from all on one side", x.steps(), 2);
        x.flip(0);
        due("from one on the other", x.steps(), 1);
        x.flip(2);
        due("at one", x.steps(), 0);
        x.flip(1);
        x.flip(3);
        due("from all on the other side", x.steps(), 2);
        Twins.unchanged("asked", Twins::rich, y -> y.steps(), 1);
    }

    private static void climb() {
        Heads.head("Promise 38: climb");
        FaceCuts side = Nets.of("net warm 0;node;node;node;link 0 1 loses 1;link 1 2 loses 1;link 2 0 loses 1;");
        side.flip(0);
        due("back to one side", side.climb(), 1);
        side.flip(1);
        due("on to the other side", side.climb(), 1);
        FaceCuts off = Nets.of("net warm 0;node;node;node;node;link 0 1 gains 9;link 2 3 loses 9;link 0 2 gains 2;link 1 3 loses 2;");
        due("from all on one side", off.climb(), 1);
        off.flip(1);
        due("not from where it is now", off.climb(), -1);
        due("with loss", off.steps(), 2);
        off.flip(1);
        due("from all on one side again", off.climb(), 1);
        due("no nodes", new FaceCuts().climb(), 0);
        due("all are", Nets.of(TEN).climb(), 0);
        due("a triangle", Nets.of(Nets.TRIANGLE).climb(), 1);
        due("a wheel", Nets.of(Nets.WHEEL).climb(), 4);
        due("a path of ten", Nets.of(path()).climb(), 5);
        due("none of which gains less than 0: a longer way", Nets.of(ROW).climb(), 3);
        due("it can't be come to so", Nets.of(BOUND).climb(), -1);
        FaceCuts x = Nets.of(SQUARE);
        x.flip(0);
        x.flip(1);
        due("flips that gain 0", x.climb(), 2);
        x.flip(1);
        x.flip(2);
        due("at one", x.climb(), 0);
        FaceCuts y = Nets.of(BOUND);
        y.flip(0);
        due("from a set that isn't stuck", y.climb(), 1);
        Twins.unchanged("asked", Twins::rich, z -> z.climb(), 1);
    }

    private static void longest() {
        Heads.head("Promise 39: longest");
        due("no nodes", new FaceCuts().longest(), 0);
        due("no links", Nets.of(TEN).longest(), 0);
        due("a link that gains 0", Nets.of("net warm 0;node;node;link 0 1 gains 0;").longest(), 0);
        due("a link that gains 1", Nets.of("net warm 0;node;node;link 0 1 gains 1;").longest(), 1);
        due("a triangle: 7, 8, 9 one behind the other", Nets.of(Nets.TRIANGLE).longest(), 3);
        due("a row", Nets.of(ROW).longest(), 3);
        due("pairs", Nets.of(BOUND).longest(), 0);
        FaceCuts x = Nets.of(SQUARE);
        due("a square: 2, 4", x.longest(), 2);
        x.flip(0);
        due("from the sides as they are", x.longest(), 1);
        x.flip(1);
        due("none that gains 0", x.longest(), 0);
        FaceCuts up = Nets.of(Nets.ringOfSixteen(-99));
        up.flip(0);
        due("up from the least there is", up.longest(), 1);
        FaceCuts both = Nets.of("net warm 0;node;node;node;node;link 0 1 gains 99;link 0 1 gains 99;link 2 3 loses 99;");
        both.flip(2);
        due("two, one behind the other", both.longest(), 2);
        due("of five pairs five", Nets.of(TEN + "link 0 1 gains 1;link 2 3 gains 1;link 4 5 gains 1;link 6 7 gains 1;link 8 9 gains 1;").longest(), 5);
        FaceCuts row = Nets.of(ROW);
        for (int v = 0; v < 5; v++) {
            row.flip(v);
        }
        for (int times = 0; times < 3; times++) {
            due("asked again, climb", row.climb(), 3);
            due("asked again, longest", row.longest(), 3);
        }
        FaceCuts pairs = Nets.of("net warm 0;node;node;node;node;node;node;link 0 1 gains 1;link 2 3 gains 1;link 4 5 gains 1;");
        due("three pairs", pairs.longest(), 3);
        Nets.tray(pairs, 0, 101);
        pairs.ask(0);
        for (int l = 0; l < 3; l++) {
            pairs.weigh(l, -1);
            pairs.flip(2 * l);
        }
        due("three pairs that lose, from the least", pairs.longest(), 3);
        pairs.weigh(0, 1);
        due("one gains then", pairs.longest(), 2);
        pairs.weigh(1, 1);
        pairs.weigh(2, 1);
        due("all gain then", pairs.longest(), 0);
        pairs.flip(0);
        due("all gain then, from the next one", pairs.longest(), 1);
        Twins.unchanged("asked", Twins::rich, y -> y.longest(), 2);
    }

    // ---- promises 40, 41

    private static void warms() {
        Heads.head("Promise 40: warms");
        FaceCuts x = Nets.of(FOUR);
        Nets.tray(x, 0, 101);
        due("all warmths", x.warms(0), 1023);
        Nets.tray(x, 0, 102);
        due("none", x.warms(0), 0);
        Nets.tray(x, 0, 1101);
        due("0 to 4", x.warms(0), 31);
        Nets.tray(x, 0, 1102);
        due("5 to 9", x.warms(0), 992);
        for (int warmth = 0; warmth <= 9; warmth++) {
            Nets.tray(x, 0, 3100 + warmth);
            due("one of them: " + warmth, x.warms(0), 1 << warmth);
        }
        Nets.tray(x, 0, 2103, 1101);
        due("both", x.warms(0), 8);
        Nets.tray(x, 0, 2103, 1102);
        due("not both", x.warms(0), 0);
        Nets.tray(x, 0, 2103, 2104);
        due("two weights of one link", x.warms(0), 0);
        Nets.tray(x, 0, 101, 101, 101, 101, 101, 101, 101, 1101);
        due("eight, the last, too", x.warms(0), 31);
        x.weigh(0, 0);
        due("by what links gain now", x.warms(0), 0);
        Nets.tray(x, 0, 100);
        due("a weight of 0", x.warms(0), 1023);
        x.weigh(0, -99);
        Nets.tray(x, 0, 1);
        due("a weight of -99", x.warms(0), 1023);
        x.weigh(0, 99);
        Nets.tray(x, 0, 199);
        due("a weight of 99", x.warms(0), 1023);
        x.warm(2);
        x.flip(0);
        due("whatever the warmth and the sides are now", x.warms(0), 1023);
        FaceCuts law = Nets.of("net warm 0;node;node;link 0 1 gains 50;weighs:told*warm;counts:not warm=3;");
        Nets.tray(law, 0, 199);
        due("weights, 99 at most", law.warms(0), 1023 - 1 - 2 - 8);
        Nets.tray(law, 0, 100);
        due("where it doesn't count: 0", law.warms(0), 9);
        FaceCuts sixteen = Nets.of(Nets.ringOfSixteen(-99));
        Nets.tray(sixteen, 0, 15001);
        due("link 15 weighs -99", sixteen.warms(0), 1023);
        sixteen.weigh(15, 99);
        due("link 15 doesn't weigh -99", sixteen.warms(0), 0);
        Nets.tray(sixteen, 0, 15199);
        due("link 15 weighs 99", sixteen.warms(0), 1023);
        Twins.unchanged("asked", y -> {
            Twins.rich(y);
            Nets.tray(y, 0, 117);
        }, y -> y.warms(0), 1023);
    }

    private static void warmsRefused() {
        weighedRefused("Promise 40: warms", FaceCuts::warms);
        weighedRefused("Promise 41: ask", FaceCuts::ask);
    }

    private interface Weighed {
        int by(FaceCuts x, int tray);
    }

    private static void weighedRefused(String head, Weighed call) {
        Heads.head(head);
        FaceCuts x = Nets.of(FOUR);
        for (int tray : new int[] {-1, 4, LOW, HIGH}) {
            due("no tray " + tray, call.by(x, tray), -2);
        }
        for (int tray = 0; tray < 4; tray++) {
            due("missing: " + tray, call.by(x, tray), -6);
        }
        for (int size : new int[] {0, 9, 10, 40}) {
            x.numbers(0, 3, size);
            due("not 1 to 8 numbers: " + size + ", ahead of -3", call.by(x, 0), -4);
            for (int i = 0; i < size; i++) {
                x.write(0, i, 101);
            }
            due("not 1 to 8 numbers: " + size, call.by(x, 0), -4);
        }
        long[] wrong = {0, 200, 999, 1000, 1200, 2000, 3200, 3999, 4000, 4100, 15100, 16100, -1, -100, -899, -900, LOW, HIGH, Long.MIN_VALUE,
            Long.MAX_VALUE, (1L << 32) + 101, (1L << 32) * 1000 + 101, -(1L << 32) + 101};
        for (long v : wrong) {
            Nets.tray(x, 0, v);
            due("isn't a link's number and 1 to 199: " + v, call.by(x, 0), -3);
            Nets.tray(x, 0, 102, 101, 101, 101, 101, 101, 101, v);
            due("the last isn't: " + v, call.by(x, 0), -3);
            Nets.tray(x, 0, v, 101);
            due("the first isn't: " + v, call.by(x, 0), -3);
        }
        for (long v : new long[] {1, 199, 1001, 1199, 3001, 3199}) {
            Nets.tray(x, 0, v);
            due("is one: " + v, call.by(x, 0) == -3 ? 1 : 0, 0);
        }
        x.numbers(3, 0, 1);
        x.write(3, 0, 101);
        due("of 8 bits", call.by(x, 3) < 0 ? 1 : 0, 0);
        FaceCuts sixteen = Nets.of(Nets.ringOfSixteen(1));
        Nets.tray(sixteen, 2, 15101);
        due("link 15", call.by(sixteen, 2) < 0 ? 1 : 0, 0);
        Nets.tray(sixteen, 2, 16101);
        due("link 16", call.by(sixteen, 2), -3);
        FaceCuts none = new FaceCuts();
        Nets.tray(none, 0, 101);
        due("no links", call.by(none, 0), -3);
        Twins.unchanged("no tray", Twins::rich, y -> call.by(y, 4), -2);
        Twins.unchanged("missing", Twins::rich, y -> call.by(y, 3), -6);
        Twins.unchanged("too many numbers", Twins::rich, y -> call.by(y, 2), -4);
        Twins.unchanged("no link's number", Twins::twisted, y -> {
            y.write(0, 0, 0);
            long answer = call.by(y, 0);
            y.write(0, 0, 1);
            return answer;
        }, -3);
    }

    private static void ask() {
        Heads.head("Promise 41: ask");
        FaceCuts x = Nets.of(FOUR);
        Nets.tray(x, 0, 101);
        due("ten, five, one, one alike: the first of the least", x.ask(0), 2);
        Nets.tray(x, 0, 1101);
        due("of five: five, five, one, one alike", x.ask(0), 2);
        Nets.tray(x, 0, 2104);
        due("of one all are alike: the first", x.ask(0), 0);
        Nets.tray(x, 0, 102);
        due("there are none", x.ask(0), -1);
        Nets.tray(x, 0, 2104, 2105);
        due("there are none", x.ask(0), -1);
        FaceCuts y = Nets.of("net warm 0;node;node;" + "link 0 1 gains 1;".repeat(4)
            + "weighs:if link=0 then 5 else if link=1 then if warm<7 then 1 else warm end else if link=2 then if warm<4 then 1 "
            + "else if warm<7 then 2 else 3 end end else if warm<3 then 1 else if warm<7 then 2 else 3 end end end end end;");
        Nets.tray(y, 0, 105);
        due("ten, seven, four, four alike", y.ask(0), 2);
        Nets.tray(y, 0, 1101);
        due("of 0 to 6: seven, seven, four, four alike", y.ask(0), 2);
        Nets.tray(y, 0, 2101);
        due("of 0 to 3: four, four, four, three alike", y.ask(0), 3);
        Nets.tray(y, 0, 3103);
        due("of 7 to 9: three, one, three, three alike", y.ask(0), 1);
        FaceCuts ends = Nets.of("net warm 0;node;node;link 0 1 gains 1;link 0 1 gains 1;weighs:if link=0 or warm<5 then 99 else 0-99 end;");
        Nets.tray(ends, 0, 199);
        due("weights from -99 to 99", ends.ask(0), 1);
        FaceCuts high = Nets.of("net warm 0;node;node;link 0 1 gains 1;link 0 1 gains 1;weighs:if link=0 or warm<9 then 0-99 else 98 end;");
        Nets.tray(high, 0, 1);
        due("the warmth 9 alone is unlike", high.ask(0), 1);
        due("whatever the warmth is now", high.warm(9) + high.ask(0), 1);
        FaceCuts low = Nets.of("net warm 0;node;node;link 0 1 gains 1;link 0 1 gains 1;weighs:if link=0 and warm<2 then 50 else warm end;");
        Nets.tray(low, 0, 150);
        due("of 0 and 1: by the warmth 0, too", low.ask(0), 1);
        FaceCuts sixteen = Nets.of("net warm 0;node;node;" + "link 0 1 gains 1;".repeat(16) + "weighs:if link<15 then 0 else warm end;");
        Nets.tray(sixteen, 0, 100);
        due("the last of sixteen", sixteen.ask(0), 15);
    }

    // ---- promises 42, 43

    private static void chance(FaceCuts x, int k, int n, int above, int below) {
        due("chance that it is " + k + " behind " + n + " lots, above", x.chance(k, n, 0), above);
        due("chance that it is " + k + " behind " + n + " lots, below", x.chance(k, n, 1), below);
    }

    private static void chance() {
        Heads.head("Promise 42: chance");
        FaceCuts x = Nets.of(Nets.WHEEL);
        chance(x, 0, 0, 1, 1);
        chance(x, 1, 0, 0, 1);
        chance(x, 0, 1, 1, 1);
        chance(x, 1, 1, 9, 10);
        chance(x, 3, 1, 9, 10);
        chance(x, 4, 1, 1, 10);
        chance(x, 8, 1, 1, 10);
        chance(x, 9, 1, 0, 1);
        chance(x, -9999, 4, 1, 1);
        chance(x, 9999, 4, 0, 1);
        x.flip(9);
        x.flip(0);
        chance(x, 8, 0, 1, 1);
        chance(x, 9, 1, 4, 5);
        FaceCuts pair = Nets.of(Nets.ringOfSixteen(99));
        chance(pair, 1584, 0, 0, 1);
        chance(pair, 1584, 1, 1, 5);
        chance(pair, 1584, 2, 8, 25);
        chance(pair, 1584, 3, 49, 125);
        chance(pair, 1584, 4, 272, 625);
        chance(pair, 1, 4, 272, 625);
        chance(pair, 0, 4, 1, 1);
        chance(pair, 1585, 4, 0, 1);
        FaceCuts losing = Nets.of(Nets.ringOfSixteen(-99));
        chance(losing, 0, 4, 353, 625);
        chance(losing, -1583, 1, 4, 5);
        chance(losing, -1584, 1, 1, 1);
        FaceCuts one = Nets.of("net warm 0;node;");
        chance(one, 0, 4, 1, 1);
        chance(new FaceCuts(), 0, 4, 1, 1);
        chance(new FaceCuts(), 1, 4, 0, 1);
        chance(Nets.of(TEN), 0, 4, 1, 1);
        FaceCuts ten = Nets.of(path());
        // By one of ten lots an end gains 1, another node 2; by two lots 4 only where two nodes lie apart from each other and the ends.
        chance(ten, 2, 1, 4, 5);
        chance(ten, 4, 2, 21, 50);
        chance(Nets.of(Nets.TWISTED), 10, 1, 1, 10);
    }

    private static void chanceRefused() {
        Heads.head("Promise 42: chance");
        FaceCuts x = Nets.of(Nets.TRIANGLE);
        for (int what : new int[] {-1, 2, LOW, HIGH}) {
            due("no what " + what, x.chance(0, 0, what), -2);
            due("no what ahead of -3: " + what, x.chance(10000, 5, what), -2);
        }
        for (int k : new int[] {10000, -10000, LOW, HIGH}) {
            due("k is " + k, x.chance(k, 0, 0), -3);
            due("k is " + k, x.chance(k, 4, 1), -3);
        }
        for (int n : new int[] {-1, 5, LOW, HIGH}) {
            due("n is " + n, x.chance(0, n, 0), -3);
            due("n is " + n, x.chance(0, n, 1), -3);
        }
        chance(x, 9999, 0, 0, 1);
        chance(x, -9999, 0, 1, 1);
        Twins.unchanged("no what", Twins::rich, y -> y.chance(0, 0, 2), -2);
        Twins.unchanged("no k", Twins::rich, y -> y.chance(10000, 0, 0), -3);
        Twins.unchanged("no n", Twins::rich, y -> y.chance(0, 5, 0), -3);
        Twins.unchanged("asked", Twins::rich, y -> y.chance(1, 1, 1), 5);
    }

    private static void mean(FaceCuts x, int n, int above, int below) {
        due("on the mean behind " + n + " lots, above", x.mean(n, 0), above);
        due("on the mean behind " + n + " lots, below", x.mean(n, 1), below);
    }

    private static void mean() {
        Heads.head("Promise 43: mean");
        FaceCuts x = Nets.of(Nets.WHEEL);
        mean(x, 0, 0, 1);
        mean(x, 1, 16, 5);
        x.flip(0);
        mean(x, 0, 8, 1);
        FaceCuts pair = Nets.of(Nets.ringOfSixteen(99));
        mean(pair, 1, 1584, 5);
        mean(pair, 2, 12672, 25);
        mean(pair, 3, 1584 * 49, 125);
        mean(pair, 4, 1584 * 272, 625);
        FaceCuts losing = Nets.of(Nets.ringOfSixteen(-99));
        mean(losing, 1, -1584, 5);
        mean(losing, 4, -1584 * 272, 625);
        losing.flip(0);
        mean(losing, 0, -1584, 1);
        mean(losing, 4, -1584 * 353, 625);
        mean(new FaceCuts(), 4, 0, 1);
        mean(Nets.of(TEN), 4, 0, 1);
        mean(Nets.of(Nets.ringOfSixteen(0)), 4, 0, 1);
        mean(Nets.of(Nets.ring(5)), 1, 1, 1);
        mean(Nets.of(Nets.ring(5, -5)), 2, 0, 1);
        for (int what : new int[] {-1, 2, LOW, HIGH}) {
            due("no what " + what, x.mean(0, what), OFF - 2);
            due("no what ahead of -3: " + what, x.mean(5, what), OFF - 2);
        }
        for (int n : new int[] {-1, 5, LOW, HIGH}) {
            due("n is " + n, x.mean(n, 0), OFF - 3);
            due("n is " + n, x.mean(n, 1), OFF - 3);
        }
        Twins.unchanged("no what", Twins::rich, y -> y.mean(0, 2), OFF - 2);
        Twins.unchanged("no n", Twins::rich, y -> y.mean(5, 0), OFF - 3);
        Twins.unchanged("asked", Twins::rich, y -> y.mean(0, 1), 1);
    }
}
