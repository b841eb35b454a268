/** Deeds, what can be undone, days, sentence by sentence; promises 9 to 18. */
final class DeedEdges {
    private static final String SIXTEEN = Nets.SIXTEEN_LINKS;
    private static final int OFF = -99000000;
    private static final int LOW = Integer.MIN_VALUE;
    private static final int HIGH = Integer.MAX_VALUE;

    private DeedEdges() {
    }

    static void run() {
        flipDeeds();
        warmDeeds();
        turnDeeds();
        weighDeeds();
        otherDeeds();
        weigh();
        flip();
        turn();
        warm();
        fall();
        sides();
        undoEach();
        undo();
        judge();
        perform();
        dayRefused();
        days();
    }

    private static void due(String sentence, long got, long want) {
        Heads.due(sentence, got, want);
    }

    /** A net of so many nodes, of which the last two have sixteen links. */
    private static String manyLinks(int nodes) {
        String ends = (nodes - 2) + " " + (nodes - 1);
        return "net warm 0;" + "node;".repeat(nodes) + ("link " + ends + " gains 1;").repeat(16);
    }

    /** The deed alone in a tray of 64 bits: done, or why not. */
    private static FaceCuts deed(String text, long v, boolean done) {
        FaceCuts x = Nets.of(text);
        Nets.tray(x, 0, v);
        due("deed " + v + ": judged, where", x.judge(0, 0), done ? -1 : 0);
        due("deed " + v + ": judged, why not", x.judge(0, 1), done ? 0 : 1);
        due("deed " + v + ": done", x.perform(0), done ? 1 : 0);
        due("deed " + v + ": can be undone", x.count(6), done ? 1 : 0);
        return x;
    }

    // ---- terms

    private static void flipDeeds() {
        Heads.head("Terms 2: deeds 0 to 9");
        String ten = manyLinks(10);
        for (int v = 0; v <= 9; v++) {
            due("node " + v + " is flipped", deed(ten, v, true).count(3), 1 << v);
            deed("net warm 0;", v, false);
        }
        deed(Nets.TRIANGLE, 2, true);
        deed(Nets.TRIANGLE, 3, false);
    }

    private static void warmDeeds() {
        Heads.head("Terms 2: deeds 10 to 19");
        for (int v = 10; v <= 19; v++) {
            due("warmth " + (v - 10), deed(Nets.TRIANGLE, v, true).count(2), v - 10);
        }
        due("without nodes, too", deed("net warm 0;", 19, true).count(2), 9);
        deed(Nets.TRIANGLE, 20, false);
    }

    private static void turnDeeds() {
        Heads.head("Terms 2: deeds 100 to 259");
        deed(Nets.TRIANGLE, 99, false);
        FaceCuts x = deed(Nets.TRIANGLE, 100, true);
        due("node 0 at place 0", x.round(0, 0), 2);
        due("node 0 at place 0: has the other's place", x.round(0, 1), 0);
        deed(Nets.TRIANGLE, 101, false);
        deed(Nets.TRIANGLE, 115, false);
        x = deed(Nets.TRIANGLE, 116, true);
        due("node 1 at place 0", x.round(1, 0), 1);
        due("node 1 alone", x.round(0, 0), 0);
        deed(Nets.TRIANGLE, 148, false);
        x = deed(SIXTEEN, 114, true);
        due("node 0 at place 14", x.round(0, 14), 15);
        deed(SIXTEEN, 115, false);
        x = deed(manyLinks(10), 258, true);
        due("node 9 at place 14", x.round(9, 14), 15);
        due("node 9 at place 14: has the other's place", x.round(9, 15), 14);
        x = deed(manyLinks(10), 244, true);
        due("node 9 at place 0", x.round(9, 0), 1);
        deed(manyLinks(9), 244, false);
        deed(manyLinks(10), 259, false);
        deed(manyLinks(10), 260, false);
        deed(manyLinks(10), 100, false);
        deed("net warm 0;node;node;link 0 1 gains 1;", 100, false);
    }

    private static void weighDeeds() {
        Heads.head("Terms 2: deeds 1000 to 17198");
        deed(Nets.TRIANGLE, 999, false);
        due("the least", deed(Nets.TRIANGLE, 1000, true).weight(0), -99);
        due("the rest less 99", deed(Nets.TRIANGLE, 1099, true).weight(0), 0);
        due("the most", deed(Nets.TRIANGLE, 1198, true).weight(0), 99);
        deed(Nets.TRIANGLE, 1199, false);
        deed(Nets.TRIANGLE, 1999, false);
        due("link 1", deed(Nets.TRIANGLE, 2000, true).weight(1), -99);
        due("link 2, the last", deed(Nets.TRIANGLE, 3198, true).weight(2), 99);
        deed(Nets.TRIANGLE, 3199, false);
        deed(Nets.TRIANGLE, 4000, false);
        due("link 15", deed(SIXTEEN, 16000, true).weight(15), -99);
        due("link 15", deed(SIXTEEN, 16198, true).weight(15), 99);
        deed(SIXTEEN, 16199, false);
        deed(SIXTEEN, 17000, false);
        deed(SIXTEEN, 17198, false);
        deed(SIXTEEN, 17199, false);
        deed("net warm 0;node;node;", 1100, false);
    }

    private static void otherDeeds() {
        Heads.head("Terms 2: other deeds");
        String[] nets = {"net warm 0;", SIXTEEN, manyLinks(10)};
        long[] others = {-1, -2, -1000, LOW, HIGH, Long.MIN_VALUE, Long.MAX_VALUE, 1L << 32, (1L << 32) + 1, (1L << 32) + 1100,
            -(1L << 32), 18000, 100000};
        for (String net : nets) {
            for (int v = 20; v <= 99; v++) {
                if (v < 25 || v > 95) {
                    deed(net, v, false);
                }
            }
            deed(net, 260, false);
            deed(net, 500, false);
            for (long v : others) {
                deed(net, v, false);
            }
        }
    }

    // ---- promises 9 to 14

    private static void weigh() {
        Heads.head("Promise 9: weigh");
        FaceCuts x = Nets.of(Nets.TWISTED);
        due("what it lost ahead", x.weigh(1, 99), -4);
        due("99", x.weigh(1, -99), 99);
        due("-99", x.weigh(1, 0), -99);
        due("0", x.weigh(1, 7), 0);
        due("weighed", x.weight(1), 7);
        due("the last link", x.weigh(4, 5), 3);
        due("the first link", x.weigh(0, 10), 10);
        due("all can be undone, even if all is as it was", x.count(6), 6);
        for (int n : new int[] {100, -100, LOW, HIGH}) {
            due("another number: " + n, x.weigh(1, n), OFF - 11);
            due("no link and another number: " + n, x.weigh(-1, n), OFF - 11);
        }
        for (int l : new int[] {-1, 5, 16, LOW, HIGH}) {
            due("no link " + l, x.weigh(l, 0), OFF - 11);
        }
        due("sixteen links: the last", Nets.of(SIXTEEN).weigh(15, 0), 1);
        due("sixteen links: none behind", Nets.of(SIXTEEN).weigh(16, 0), OFF - 11);
        FaceCuts y = Nets.of("net warm 0;node;node;link 0 1 gains 4;weighs:50;");
        due("what it gained, not what it weighs", y.weigh(0, 6), 4);
        due("what it gained, not what it weighs", y.weigh(0, 6), 6);
        due("what it weighs", y.weight(0), 50);
        Twins.unchanged("a link that is none", Twins::rich, z -> z.weigh(3, 0), OFF - 11);
        Twins.unchanged("a link that is none", Twins::rich, z -> z.weigh(-1, 0), OFF - 11);
        Twins.unchanged("a number above", Twins::rich, z -> z.weigh(0, 100), OFF - 11);
        Twins.unchanged("a number below", Twins::rich, z -> z.weigh(0, -100), OFF - 11);
    }

    private static void flip() {
        Heads.head("Promise 10: flip");
        FaceCuts x = Nets.of(Nets.WHEEL);
        due("the worth then", x.flip(0), 8);
        due("the worth then", x.flip(8), 9);
        due("sides", x.count(3), 257);
        due("a node without links", x.flip(9), 9);
        due("back", x.flip(0), 3);
        due("sides", x.count(3), 768);
        for (int n : new int[] {-1, 10, 31, 32, LOW, HIGH}) {
            due("no node " + n, x.flip(n), OFF - 11);
        }
        due("refused ones can't be undone", x.count(6), 4);
        due("of three: the last", Nets.of(Nets.TRIANGLE).flip(2), 7);
        due("a worth below 0", Nets.of(Nets.ring(-99, -99)).flip(0), -198);
        Twins.unchanged("no such node", Twins::rich, z -> z.flip(3), OFF - 11);
        Twins.unchanged("no such node", Twins::rich, z -> z.flip(-1), OFF - 11);
    }

    private static void turn() {
        Heads.head("Promise 11: turn");
        FaceCuts x = Nets.of(Nets.TWISTED);
        due("twists then", x.turn(0, 1), 0);
        due("twists then: back", x.turn(0, 1), 1);
        due("places 0 and 1", x.turn(0, 0), 0);
        due("have each other's place", x.round(0, 0), 3);
        due("have each other's place", x.round(0, 1), 0);
        due("the third stays", x.round(0, 2), 4);
        due("of two links", x.turn(1, 0), 0);
        due("the last place", x.turn(0, 2), -11);
        due("the last place of two", x.turn(1, 1), -11);
        for (int place : new int[] {-1, 3, 16, LOW, HIGH}) {
            due("no place " + place, x.turn(0, place), -11);
            due("no node and no place " + place, x.turn(4, place), -11);
        }
        for (int n : new int[] {-1, 4, 10, LOW, HIGH}) {
            due("no node " + n, x.turn(n, 0), -11);
        }
        due("those that aren't refused can be undone", x.count(6), 4);
        FaceCuts full = Nets.of(SIXTEEN);
        due("sixteen links: the last two", full.turn(1, 14), 7);
        due("sixteen links: no more", full.turn(1, 15), -11);
        FaceCuts wheel = Nets.of(Nets.WHEEL);
        due("a node without links", wheel.turn(9, 0), -11);
        due("the hub", wheel.turn(0, 6), 1);
        due("the hub: no more", wheel.turn(0, 7), -11);
        due("one link", Nets.of("net warm 0;node;node;link 0 1 gains 1;").turn(0, 0), -11);
        Twins.unchanged("no such place", Twins::rich, z -> z.turn(0, 1), -11);
        Twins.unchanged("no such place", Twins::rich, z -> z.turn(0, -1), -11);
        Twins.unchanged("no such node", Twins::rich, z -> z.turn(3, 0), -11);
    }

    private static void warm() {
        Heads.head("Promise 12: warm");
        FaceCuts x = Nets.of("net warm 9;node;node;link 0 1 gains 1;weighs:warm*10;");
        due("what it was, at first as told", x.warm(0), 9);
        due("weights by it", x.weight(0), 0);
        for (int n = 1; n <= 9; n++) {
            due("what it was", x.warm(n), n - 1);
            due("weights by it", x.weight(0), 10 * n);
        }
        due("the same", x.warm(9), 9);
        for (int n : new int[] {-1, 10, LOW, HIGH}) {
            due("no warmth " + n, x.warm(n), -11);
        }
        due("it stays", x.count(2), 9);
        Twins.unchanged("above", Twins::rich, z -> z.warm(10), -11);
        Twins.unchanged("below", Twins::rich, z -> z.warm(-1), -11);
    }

    private static void fall() {
        Heads.head("Promise 13: fall");
        FaceCuts x = Nets.of(Nets.WHEEL);
        due("the worth then", x.fall(), 12);
        due("the hub gains most, then 1, 3, 5, 7, of like ones the first", x.count(3), 0b10101011);
        due("it can be undone", x.undo(1), 0);
        due("as a whole", x.count(3), 0);
        x.sides();
        due("none gains", x.fall(), 12);
        due("none is flipped", x.count(3), 340);
        due("it can be undone, also if none was", x.count(6), 2);
        due("none that gains 0", Nets.of("net warm 0;node;node;link 0 1 gains 0;").fall(), 0);
        FaceCuts zero = Nets.of("net warm 0;node;node;node;link 0 1 gains 0;link 1 2 gains 1;");
        due("one that gains 1", zero.fall(), 1);
        due("not the one that gains 0", zero.count(3), 2);
        FaceCuts again = Nets.of("net warm 0;node;node;node;link 0 1 gains 3;link 0 2 gains 3;link 1 2 gains 5;");
        due("till none gains", again.fall(), 8);
        due("the first of those that gain 8, then none", again.count(3), 2);
        FaceCuts far = Nets.of("net warm 0;node;node;node;node;link 0 1 loses 5;link 0 2 gains 6;link 1 3 gains 7;");
        due("again and again", far.fall(), 13);
        due("of all that gain the greatest first", far.count(3), 12);
        FaceCuts loses = Nets.of(Nets.ring(-1));
        loses.flip(0);
        due("up from below 0", loses.fall(), 0);
        due("the first of like ones", loses.count(3), 0);
        due("it isn't refused without nodes", Nets.of("net warm 0;").fall(), 0);
        due("it isn't refused where it isn't flat", Nets.of(Nets.TWISTED).fall(), 20);
    }

    private static void sides() {
        Heads.head("Promise 14: sides");
        FaceCuts x = Nets.of(Nets.WHEEL);
        due("how many nodes were flipped", x.sides(), 4);
        due("those of the greatest cut", x.count(3), x.greatest(2));
        due("the cut", x.count(5), x.greatest(1));
        due("none", x.sides(), 0);
        due("it can be undone, also if none was", x.count(6), 2);
        x.flip(0);
        x.flip(9);
        x.flip(8);
        due("the hub's side is 0, that of others without links, too", x.sides(), 3);
        due("it is undone", x.undo(1), 5);
        due("it is undone", x.count(3), 340 - 256 + 512 + 1);
        FaceCuts y = Nets.of(Nets.TWISTED);
        due("it isn't flat", y.sides(), -5);
        y.turn(0, 1);
        due("it is flat then", y.sides(), 2);
        due("without nodes", Nets.of("net warm 0;").sides(), 0);
        Twins.unchanged("it isn't flat", Twins::twisted, z -> z.sides(), -5);
    }

    // ---- promise 15

    /** One call of each that can be undone; where it does nothing, too. */
    private static void undoEach() {
        Heads.head("Promise 15: undo");
        String law = "net warm 3;node;node;node;link 0 1 gains 5;link 1 2 gains 3;link 2 0 gains 4;weighs:told+warm;";
        Twins.Calls[] calls = {x -> x.weigh(1, 50), x -> x.flip(2), x -> x.turn(2, 0), x -> x.warm(8), x -> x.fall(), x -> x.sides(),
            x -> x.perform(0), x -> x.day(7, 40)};
        String[] names = {"weigh", "flip", "turn", "warm", "fall", "sides", "perform", "day"};
        for (int i = 0; i < calls.length; i++) {
            Twins.Calls call = calls[i];
            String name = names[i];
            Twins.unchanged(name + "() is undone as a whole", x -> {
                Nets.read(x, law);
                Nets.tray(x, 0, 0, 17, 2150, 116, 1001);
                x.flip(1);
                x.turn(0, 0);
            }, x -> {
                call.on(x);
                Heads.due(name + "() can be undone", x.count(6), 3);
                return x.undo(1);
            }, 2);
        }
        Twins.Calls[] idle = {x -> x.weigh(1, 3), x -> x.warm(3), x -> x.fall(), x -> x.sides()};
        for (int i = 0; i < idle.length; i++) {
            FaceCuts x = Nets.of(Nets.TRIANGLE);
            x.sides();
            int sides = x.count(3);
            idle[i].on(x);
            due("even if all is as it was, call " + i, x.count(6), 2);
            due("all is as it was, call " + i, x.count(3), sides);
            due("undone, call " + i, x.undo(1), 1);
        }
    }

    private static void undo() {
        Heads.head("Promise 15: undo");
        FaceCuts x = Nets.of(Nets.TRIANGLE);
        due("none can be", x.undo(1), -3);
        for (int i = 0; i < 10; i++) {
            x.weigh(0, 20 + i);
            due("so many can be", x.count(6), i + 1);
        }
        due("more than can be", x.undo(11), -3);
        due("all ten", x.undo(10), 0);
        due("as it was ahead of the first", x.weight(0), 5);
        due("none is left", x.undo(1), -3);
        for (int i = 0; i < 11; i++) {
            x.weigh(0, 20 + i);
        }
        due("one more than ten: the eldest is forgotten", x.count(6), 10);
        due("more than can be", x.undo(11), -3);
        due("all ten", x.undo(10), 0);
        due("as it was ahead of the second", x.weight(0), 20);
        for (int i = 0; i < 25; i++) {
            x.weigh(0, 30 + i);
        }
        due("the latest first", x.undo(1), 9);
        due("the latest first", x.weight(0), 53);
        due("then the one ahead of it", x.undo(1), 8);
        due("then the one ahead of it", x.weight(0), 52);
        due("three", x.undo(3), 5);
        due("three", x.weight(0), 49);
        due("more than can be", x.undo(6), -3);
        due("undo() itself can't be undone", x.count(6), 5);
        x.weigh(0, 99);
        due("deeds go on from there", x.count(6), 6);
        due("and are undone", x.undo(2), 4);
        due("and are undone", x.weight(0), 48);
        for (int n : new int[] {0, -1, 5, 10, 11, LOW, HIGH}) {
            due("n is " + n, x.undo(n), -3);
        }
        FaceCuts y = Nets.of(Nets.TRIANGLE);
        y.weigh(0, 1);
        y.turn(0, 0);
        y.warm(9);
        y.flip(2);
        y.undo(1);
        due("sides", y.count(3), 0);
        due("not yet the warmth", y.count(2), 9);
        y.undo(1);
        due("the warmth", y.count(2), 3);
        due("not yet what lies round", y.round(0, 0), 2);
        y.undo(1);
        due("what lies round", y.round(0, 0), 0);
        due("not yet what links gain", y.weight(0), 1);
        y.undo(1);
        due("what links gain", y.weight(0), 5);
        FaceCuts z = Nets.of(Nets.TRIANGLE);
        z.flip(0);
        z.numbers(0, 0, 1);
        z.image(0);
        Nets.feed(z, "net");
        z.judge(0, 0);
        z.write(0, 0, 7);
        z.lists(0, 0);
        due("other calls can't be undone", z.count(6), 1);
        due("and stay", z.undo(1) + z.count(7) + z.judge(0, 0), 20 - 1);
        Twins.unchanged("0", Twins::rich, t -> t.undo(0), -3);
        Twins.unchanged("below 0", Twins::rich, t -> t.undo(-1), -3);
        Twins.unchanged("eleven", Twins::rich, t -> t.undo(11), -3);
        Twins.unchanged("more than can be", Twins::twisted, t -> t.undo(3), -3);
    }

    // ---- promises 16 to 18

    private static void judge() {
        Heads.head("Promise 16: judge");
        FaceCuts x = Nets.of(Nets.TWISTED);
        for (int tray : new int[] {-1, 4, LOW, HIGH}) {
            due("no tray " + tray, x.judge(tray, 0), -2);
        }
        for (int what : new int[] {-1, 4, LOW, HIGH}) {
            due("no what " + what, x.judge(0, what), -2);
            due("what ahead of -6: " + what, x.judge(3, what), -2);
        }
        for (int tray = 0; tray < 4; tray++) {
            due("missing: " + tray, x.judge(tray, 0), -6);
            due("missing: " + tray, x.judge(tray, 3), -6);
        }
        x.numbers(3, 2, 0);
        due("no deeds: the first place", x.judge(3, 0), -1);
        due("no deeds: why", x.judge(3, 1), 0);
        due("no deeds: the worth then", x.judge(3, 2), 10000);
        due("no deeds: twists then", x.judge(3, 3), 1);
        Nets.tray(x, 0, 10, 0, 1000, 101, 4, 2);
        due("the first place that can't be", x.judge(0, 0), 4);
        due("why", x.judge(0, 1), 1);
        due("the worth then, and 10,000", x.judge(0, 2), 10000 - 99 + 2 + 3);
        due("twists then", x.judge(0, 3), 0);
        Nets.tray(x, 0, 4, 0, 101);
        due("the first can't", x.judge(0, 0), 0);
        due("the first can't: why", x.judge(0, 1), 1);
        due("the first can't: the worth as it is", x.judge(0, 2), 10000);
        due("the first can't: twists as they are", x.judge(0, 3), 1);
        long[] forty = new long[40];
        forty[39] = 0;
        forty[38] = 101;
        for (int i = 0; i < 38; i++) {
            forty[i] = 2;
        }
        Nets.tray(x, 1, forty);
        due("forty deeds", x.judge(1, 0), -1);
        due("forty deeds: the worth then", x.judge(1, 2), 10000 + 10 + 2 + 3);
        due("forty deeds: twists then", x.judge(1, 3), 0);
        x.write(1, 39, 99);
        due("the fortieth can't", x.judge(1, 0), 39);
        due("the fortieth can't: why", x.judge(1, 1), 1);
        due("the fortieth can't: the worth then", x.judge(1, 2), 10000);
        FaceCuts most = Nets.of(Nets.ringOfSixteen(-99));
        Nets.tray(most, 0, 1);
        due("the least worth there is", most.judge(0, 2), 10000 - 1584);
        Twins.unchanged("judged, nothing is done", Twins::rich, y -> y.judge(0, 2), 10020);
        Twins.unchanged("judged, nothing is done", Twins::rich, y -> y.judge(1, 3), 0);
        Twins.unchanged("no such tray", Twins::rich, y -> y.judge(4, 0), -2);
        Twins.unchanged("no such what", Twins::rich, y -> y.judge(0, 4), -2);
        Twins.unchanged("missing", Twins::rich, y -> y.judge(3, 0), -6);
    }

    private static void perform() {
        Heads.head("Promise 17: perform");
        FaceCuts x = Nets.of(Nets.TWISTED);
        for (int tray : new int[] {-1, 4, LOW, HIGH}) {
            due("no tray " + tray, x.perform(tray), -2);
        }
        for (int tray = 0; tray < 4; tray++) {
            due("missing: " + tray, x.perform(tray), -6);
        }
        x.numbers(3, 2, 0);
        due("no deeds", x.perform(3), 0);
        due("none done: nothing to undo", x.count(6), 0);
        Nets.tray(x, 2, 4, 0);
        due("the first can't be", x.perform(2), 0);
        due("none done: nothing to undo", x.count(6), 0);
        due("none behind it is done", x.count(3), 0);
        Nets.tray(x, 2, 3, 19, 1000, 101, 4, 2);
        due("till one can't be", x.perform(2), 4);
        due("flipped, and not behind that one", x.count(3), 8);
        due("the warmth", x.count(2), 9);
        due("weighed", x.weight(0), -99);
        due("turned", x.twists(), 0);
        due("one call to undo", x.count(6), 1);
        Nets.tray(x, 2, 3, 3);
        due("even if all is as it was", x.perform(2), 2);
        due("even if all is as it was", x.count(6), 2);
        due("undone", x.undo(2), 0);
        due("undone", x.count(3) + x.weight(0) + x.count(2) + x.twists(), 10 + 2 + 1);
        long[] forty = new long[40];
        for (int i = 0; i < 40; i++) {
            forty[i] = i % 4;
        }
        forty[39] = 13;
        Nets.tray(x, 1, forty);
        due("forty", x.perform(1), 40);
        due("forty: sides", x.count(3), 8);
        due("forty: the warmth", x.count(2), 3);
        due("one call to undo", x.count(6), 1);
        Twins.unchanged("no such tray", Twins::rich, y -> y.perform(4), -2);
        Twins.unchanged("missing", Twins::rich, y -> y.perform(3), -6);
        Twins.unchanged("none done", y -> {
            Twins.rich(y);
            y.write(0, 0, 9);
        }, y -> y.perform(0), 0);
    }

    private static void dayRefused() {
        Heads.head("Promise 18: day");
        for (int times : new int[] {0, -1, 41, LOW, HIGH}) {
            due("how many times: " + times, Nets.of(Nets.TRIANGLE).day(1, times), -3);
        }
        Twins.unchanged("none", Twins::rich, x -> x.day(1, 0), -3);
        Twins.unchanged("too many", Twins::rich, x -> x.day(1, 41), -3);
        for (int i = 0; i < 60; i++) {
            FaceCuts x = new FaceCuts();
            int seed = i * 65536 + 1;
            int sort = (1103515245 * seed + 12345 >>> 16) % 6;
            due("without nodes a warmth alone can be, seed " + seed, x.day(seed, 1), sort == 2 ? 1 : 0);
            due("it can be undone, if one was done, seed " + seed, x.count(6), sort == 2 ? 1 : 0);
        }
    }

    private int x;

    private int draw() {
        x = 1103515245 * x + 12345;
        return x >>> 16;
    }

    private int deed() {
        switch (draw() % 6) {
            case 0:
            case 1:
                return draw() % 10;
            case 2:
                return 10 + draw() % 10;
            case 3:
                return 100 + draw() % 160;
            default:
                int link = draw() % 16;
                return 1000 + 1000 * link + draw() % 199;
        }
    }

    /** Each day against the same deeds, one a tray. */
    private static void days() {
        Heads.head("Promise 18: day");
        String[] nets = {Nets.TRIANGLE, Nets.TWISTED, Nets.WHEEL, SIXTEEN, manyLinks(10), "net warm 0;"};
        int[] seeds = {0, 1, -1, LOW, HIGH, 12345, -987654321, 1 << 16};
        for (String net : nets) {
            for (int seed : seeds) {
                for (int times : new int[] {1, 2, 40}) {
                    oneDay(net, seed, times);
                }
            }
        }
    }

    private static void oneDay(String net, int seed, int times) {
        FaceCuts day = Nets.of(net);
        FaceCuts one = Nets.of(net);
        DeedEdges draws = new DeedEdges();
        draws.x = seed;
        int done = 0;
        one.numbers(0, 2, 1);
        for (int i = 0; i < times; i++) {
            one.write(0, 0, draws.deed());
            done += one.perform(0);
        }
        String sentence = "seed " + seed + ", " + times + " times, of a net of " + net.length() + " bytes: ";
        due(sentence + "how many could be", day.day(seed, times), done);
        due(sentence + "sides", day.count(3), one.count(3));
        due(sentence + "warmth", day.count(2), one.count(2));
        for (int l = 0; l < day.count(1); l++) {
            due(sentence + "weight", day.weight(l), one.weight(l));
            due(sentence + "faces", day.link(l, 2) * 32 + day.link(l, 3), one.link(l, 2) * 32 + one.link(l, 3));
        }
        due(sentence + "as a whole", day.count(6), done > 0 ? 1 : 0);
    }
}
