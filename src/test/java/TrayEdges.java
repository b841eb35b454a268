/** Trays, images, what is counted, sentence by sentence; promises 44 to 49. */
final class TrayEdges {
    private static final int LOW = Integer.MIN_VALUE;
    private static final int HIGH = Integer.MAX_VALUE;

    private TrayEdges() {
    }

    static void run() {
        numbers();
        write();
        cutToSort();
        lists();
        image();
        restore();
        restored();
        restoredBehindOthers();
        count();
        countFull();
    }

    private static void due(String sentence, long got, long want) {
        Heads.due(sentence, got, want);
    }

    // ---- promises 44 to 46

    private static void numbers() {
        Heads.head("Promise 44: numbers");
        FaceCuts x = Nets.of(Nets.TRIANGLE);
        for (int tray : new int[] {-1, 4, LOW, HIGH}) {
            due("no such tray: " + tray, x.numbers(tray, 0, 1), -2);
            due("no such tray ahead of -3: " + tray, x.numbers(tray, 0, 41), -2);
        }
        for (int sort : new int[] {-1, 4, LOW, HIGH}) {
            due("no such sort: " + sort, x.numbers(0, sort, 1), -2);
            due("no such sort ahead of -3: " + sort, x.numbers(0, sort, -1), -2);
        }
        for (int n : new int[] {-1, 41, LOW, HIGH}) {
            due("n is " + n, x.numbers(0, 0, n), -3);
        }
        due("refused, it is still missing", x.write(0, 0, 0), -6);
        for (int tray = 0; tray < 4; tray++) {
            for (int sort = 0; sort < 4; sort++) {
                for (int n : new int[] {0, 1, 39, 40}) {
                    due("tray " + tray + ", sort " + sort + ", of " + n, x.numbers(tray, sort, n), 0);
                    due("it has no more than " + n, x.write(tray, n, 1), -7);
                    due("it has " + n, n == 0 ? 1 : x.write(tray, n - 1, 1), 1);
                }
            }
        }
        FaceCuts y = Nets.of(Nets.TRIANGLE);
        Nets.tray(y, 1, 2, 2, 2, 2, 2);
        due("in place of another one", y.numbers(1, 0, 3), 0);
        due("in place of another one: the sort", y.write(1, 0, 256), 0);
        due("all 0", y.perform(1), 3);
        due("all 0: node 0 is flipped three times", y.count(3), 1);
        Nets.tray(y, 1, 1, 1, 1, 1, 1);
        y.numbers(1, 3, 1);
        y.numbers(1, 3, 5);
        due("all 0, also those behind the end of the one between", y.perform(1), 5);
        due("all 0, also those behind the end of the one between", y.count(3), 0);
        due("the other trays are missing", y.write(0, 0, 0) + y.write(2, 0, 0) + y.write(3, 0, 0), -18);
        due("it isn't a deed to undo", y.count(6), 2);
        Twins.unchanged("no such tray", Twins::rich, z -> z.numbers(4, 0, 1), -2);
        Twins.unchanged("no such sort", Twins::rich, z -> z.numbers(0, 4, 1), -2);
        for (int tray = 0; tray < 4; tray++) {
            int t = tray;
            Twins.unchanged("n is below 0, tray " + tray, Twins::rich, z -> z.numbers(t, 2, -1), -3);
            Twins.unchanged("n is above 40, tray " + tray, Twins::rich, z -> z.numbers(t, 2, 41), -3);
        }
    }

    private static void write() {
        Heads.head("Promise 45: write");
        FaceCuts x = Nets.of(Nets.TRIANGLE);
        for (int tray : new int[] {-1, 4, LOW, HIGH}) {
            due("no such tray: " + tray, x.write(tray, 0, 1), -2);
        }
        for (int tray = 0; tray < 4; tray++) {
            due("missing, ahead of -7: " + tray, x.write(tray, -1, 1), -6);
            due("missing: " + tray, x.write(tray, 0, 1), -6);
        }
        x.numbers(0, 3, 0);
        due("of no numbers", x.write(0, 0, 1), -7);
        due("of no numbers", x.write(0, -1, 1), -7);
        x.numbers(0, 3, 40);
        for (int i : new int[] {-1, 40, LOW, HIGH}) {
            due("no such number: " + i, x.write(0, i, 1), -7);
        }
        for (int i = 0; i < 40; i++) {
            due("number " + i, x.write(0, i, i % 3), i % 3);
        }
        due("each is there", x.perform(0), 40);
        due("14 times 0, 13 times 1 and 2", x.count(3), 6);
        x.write(0, 39, 3);
        due("the last", x.judge(0, 0), 39);
        x.write(0, 0, 9);
        due("the first", x.judge(0, 0), 0);
        Nets.tray(x, 1, 5, 6);
        due("other trays aren't written into", x.write(0, 1, 2) + x.judge(1, 0), 2);
        Twins.unchanged("no such tray", Twins::rich, y -> y.write(4, 0, 1), -2);
        Twins.unchanged("missing", Twins::rich, y -> y.write(3, 0, 1), -6);
        Twins.unchanged("no such number", Twins::rich, y -> y.write(0, 3, 1), -7);
        Twins.unchanged("no such number", Twins::rich, y -> y.write(2, 40, 1), -7);
        Twins.unchanged("the same number", Twins::rich, y -> y.write(0, 0, 1), 1);
    }

    private static void cutToSort() {
        Heads.head("Promise 45: write");
        for (int sort = 0; sort < 4; sort++) {
            int bits = 8 << sort;
            long high = Long.MAX_VALUE >> 64 - bits;
            long low = Long.MIN_VALUE >> 64 - bits;
            String of = bits + " bits: ";
            cut(of + "the greatest", sort, high, high);
            cut(of + "the next one", sort, high + 1, low);
            cut(of + "the least", sort, low, low);
            cut(of + "the next one below", sort, low - 1, high);
            cut(of + "0", sort, 0, 0);
            cut(of + "-1", sort, -1, -1);
            cut(of + "all ones and more", sort, Long.MAX_VALUE, sort == 3 ? Long.MAX_VALUE : -1);
            cut(of + "the least of 64 bits", sort, Long.MIN_VALUE, sort == 3 ? Long.MIN_VALUE : 0);
        }
        cut("8 bits: 255", 0, 255, -1);
        cut("8 bits: 256", 0, 256, 0);
        cut("8 bits: 300", 0, 300, 44);
        cut("16 bits: 65535", 1, 65535, -1);
        cut("16 bits: 65536 and 1000", 1, 66536, 1000);
        cut("32 bits: 4294967296 and 7", 2, 4294967303L, 7);
        FaceCuts x = Nets.of(Nets.TRIANGLE);
        x.numbers(0, 0, 1);
        x.write(0, 0, 258);
        due("as it is there: 258 in 8 bits flips node 2", x.perform(0) * 10 + x.count(3), 14);
        x.write(0, 0, 1100);
        due("as it is there: 1100 in 8 bits is 76", x.judge(0, 0), 0);
        x.numbers(0, 2, 1);
        x.write(0, 0, (5L << 32) + 19);
        due("as it is there: in 32 bits", x.perform(0) * 10 + x.count(2), 19);
    }

    private static void cut(String sentence, int sort, long v, long want) {
        FaceCuts x = new FaceCuts();
        x.numbers(2, sort, 3);
        due(sentence, x.write(2, 1, v), want);
    }

    private static void lists() {
        Heads.head("Promise 46: lists");
        FaceCuts x = Nets.of(Nets.WHEEL);
        for (int tray : new int[] {-1, 4, LOW, HIGH}) {
            due("no such tray: " + tray, x.lists(tray, 0), -2);
        }
        for (int f : new int[] {-1, 9, 16, LOW, HIGH}) {
            due("no such face, ahead of -6: " + f, x.lists(0, f), -2);
        }
        for (int tray = 0; tray < 4; tray++) {
            due("missing: " + tray, x.lists(tray, 8), -6);
        }
        Nets.tray(x, 0, 9, 9, 9, 4, 8);
        due("as many as there are darts", x.lists(0, 1), 3);
        due("1, 2, 17 and, behind these, 4, 8", x.perform(0), 5);
        due("from its least one on", x.count(3), 2 + 4 + 16 + 256);
        due("from its least one on", x.count(2), 7);
        due("they change nothing but the tray", x.undo(1), 0);
        Nets.tray(x, 0, 9, 9);
        due("as far as it has places", x.lists(0, 1), 2);
        due("as far as it has places: 1, 2", x.perform(0) * 1000 + x.count(3), 2006);
        Nets.tray(x, 0, 9, 9, 9);
        due("just as many", x.lists(0, 1), 3);
        x.undo(1);
        due("just as many: 1, 2, 17", x.perform(0) * 1000 + x.count(3), 3006);
        x.numbers(1, 0, 0);
        due("no places", x.lists(1, 8), 0);
        x.numbers(1, 0, 40);
        due("forty places", x.lists(1, 8), 8);
        due("16, 18, then 20, that can't be", x.judge(1, 0), 2);
        FaceCuts all = Nets.of("net warm 0;node;node;node;" + "link 0 1 gains 1;".repeat(15) + "link 1 2 gains 1;");
        all.numbers(3, 1, 40);
        due("thirty-two darts", all.lists(3, 0), 32);
        all.numbers(3, 1, 32);
        due("thirty-two places", all.lists(3, 0), 32);
        all.numbers(3, 1, 31);
        due("one place less", all.lists(3, 0), 31);
        due("the last of sixteen faces", lastOfSixteen().lists(0, 15), 2);
        due("none behind it", lastOfSixteen().lists(0, 16), -2);
        Twins.unchanged("no such tray", Twins::rich, y -> y.lists(4, 0), -2);
        Twins.unchanged("no such face", Twins::rich, y -> y.lists(0, 2), -2);
        Twins.unchanged("missing", Twins::rich, y -> y.lists(3, 0), -6);
    }

    private static FaceCuts lastOfSixteen() {
        FaceCuts x = Nets.of(Nets.ringOfSixteen(1));
        x.numbers(0, 0, 40);
        return x;
    }

    // ---- promises 47 to 49

    private static void image() {
        Heads.head("Promise 47: image");
        FaceCuts x = Nets.of(Nets.TRIANGLE);
        for (int i : new int[] {-1, 2, LOW, HIGH}) {
            due("none such: " + i, x.image(i), -2);
        }
        due("none was made", x.restore(0) + x.restore(1), -10);
        x.flip(1);
        due("image 0", x.image(0), 0);
        due("image 1 wasn't made", x.restore(1), -5);
        due("sides stay", x.count(3), 2);
        due("what can be undone stays", x.count(6), 1);
        x.flip(2);
        due("image 1", x.image(1), 0);
        x.flip(0);
        due("image 0 again, in place of the earlier one", x.image(0), 0);
        x.restore(1);
        due("image 1 is another", x.count(3), 6);
        x.restore(0);
        due("image 0 is the later one", x.count(3), 7);
        Twins.unchanged("none such", Twins::rich, y -> y.image(2), -2);
        Twins.unchanged("none such", Twins::rich, y -> y.image(-1), -2);
        Twins.unchanged("of what was restored ahead", y -> {
            Twins.rich(y);
            y.restore(0);
        }, y -> y.image(0), 0);
    }

    private static void restore() {
        Heads.head("Promise 48: restore");
        FaceCuts x = Nets.of(Nets.TRIANGLE);
        for (int i : new int[] {-1, 2, LOW, HIGH}) {
            due("none such: " + i, x.restore(i), -2);
        }
        due("none was made: 0", x.restore(0), -5);
        due("none was made: 1", x.restore(1), -5);
        Twins.unchanged("none such", Twins::rich, y -> y.restore(2), -2);
        Twins.unchanged("none such", Twins::rich, y -> y.restore(-1), -2);
        Twins.unchanged("none was made", Twins::twisted, y -> y.restore(0), -5);
        FaceCuts none = new FaceCuts();
        none.warm(5);
        none.image(0);
        Nets.read(none, Nets.WHEEL);
        none.restore(0);
        due("an image without a net: nodes", none.count(0) + none.count(1) + none.count(8) + none.faces(), 0);
        due("an image without a net: warmth", none.count(2), 5);
        FaceCuts full = Nets.of(Nets.WHEEL);
        full.flip(9);
        full.image(1);
        due("a smaller net", Nets.read(full, Nets.TRIANGLE), 7);
        due("restored", full.restore(1), 0);
        due("ten nodes", full.count(0), 10);
        due("sixteen links", full.count(1), 16);
        due("sides", full.count(3), 512);
        due("faces", full.faces(), 9);
        due("greatest", full.greatest(0), 12);
    }

    /** Deeds of each kind behind the image. */
    private static void restored() {
        Heads.head("Promise 48: restore");
        FaceCuts x = Nets.of("net warm 4;node;node;node;link 0 1 gains 5;link 1 2 gains 3;link 2 0 gains 4;round 1 1 0;weighs:told+warm;counts:link<2;");
        x.weigh(0, 6);
        x.flip(1);
        x.turn(0, 0);
        x.warm(5);
        x.image(0);
        x.weigh(0, 7);
        x.weigh(1, 8);
        x.flip(2);
        x.turn(0, 0);
        x.turn(1, 0);
        x.warm(6);
        x.numbers(0, 0, 1);
        x.write(0, 0, 2);
        Nets.feed(x, Nets.WHEEL);
        for (int times = 0; times < 2; times++) {
            String again = times == 0 ? "" : "again, behind deeds: ";
            due(again + "restored", x.restore(0), 0);
            due(again + "nothing can be undone", x.count(6), 0);
            due(again + "nothing can be undone", x.undo(1), -3);
            due(again + "what links gain, the law weighs", x.weight(0), 11);
            due(again + "what links gain, the law weighs", x.weight(1), 8);
            due(again + "the law counts", x.weight(2), 0);
            due(again + "sides", x.count(3), 2);
            due(again + "round, turned", x.round(0, 0) * 10 + x.round(0, 1), 20);
            due(again + "round, as told", x.round(1, 0) * 10 + x.round(1, 1), 10);
            due(again + "warmth", x.count(2), 5);
            due(again + "lines", x.count(8), 10);
            due(again + "the tape stays", x.count(7), 360);
            due(again + "trays stay", x.perform(0), 1);
            due(again + "flipped", x.count(3), 6);
            x.weigh(1, -50);
            x.warm(0);
            x.turn(0, 0);
            x.turn(1, 0);
        }
        due("deeds behind it can be undone: all five", x.undo(5), 0);
        due("deeds behind it can be undone", x.weight(0) * 100 + x.count(3), 1102);
        due("what is on the tape is read", x.net(Nets.WHEEL.length()), 28);
        x.restore(0);
        due("the laws are there again: weighs", x.weight(0), 11);
        due("the laws are there again: counts", x.weight(2), 0);
    }

    /** What was asked of another net doesn't show behind it. */
    private static void restoredBehindOthers() {
        Heads.head("Promise 48: restore");
        FaceCuts x = Nets.of("net warm 1;node;node;node;link 0 1 gains 2;link 1 2 gains 2;link 0 2 gains 2;weighs:told+5;counts:warm=1;");
        x.image(0);
        askAll("the first", x, 7, 14, 6, 2, 2);
        Nets.read(x, "net warm 1;node;node;node;link 2 1 gains 2;link 0 1 gains 2;link 0 2 loses 2;round 0 2 1;weighs:told+3;counts:warm<1;");
        askAll("the second", x, 0, 0, 8, 2, 0);
        x.image(1);
        for (int times = 0; times < 3; times++) {
            Nets.read(x, Nets.WHEEL);
            askAll("a wheel", x, 1, 12, 8, 9, 8);
            x.restore(0);
            askAll("the first again", x, 7, 14, 6, 2, 2);
            x.restore(1);
            askAll("the second again", x, 0, 0, 8, 2, 0);
            due("the second again: round", x.round(0, 0), 2);
            x.warm(0);
            askAll("the second, warmth 0", x, 5, 10, 2, 2, 2);
        }
    }

    private static void askAll(String net, FaceCuts x, int weight, int worth, int best, int faces, int odd) {
        due(net + ": weight", x.weight(0), weight);
        due(net + ": greatest", x.greatest(0), worth);
        due(net + ": all", x.all(0), worth);
        due(net + ": best", x.best(), best);
        due(net + ": faces", x.faces(), faces);
        due(net + ": odd", Integer.bitCount(x.odd()), odd);
        due(net + ": least", x.least(0), x.all(1));
    }

    private static void count() {
        Heads.head("Promise 49: count");
        FaceCuts x = Nets.of("net warm 6;node;node;node;link 0 1 gains 5;link 1 2 loses 3;link 2 0 gains 0;");
        x.flip(2);
        x.flip(0);
        x.flip(0);
        Nets.feed(x, "net");
        int[] want = {3, 3, 6, 4, 1, 6, 3, 20, 7};
        for (int what = 0; what < want.length; what++) {
            due("what " + what, x.count(what), want[what]);
        }
        for (int what : new int[] {-1, 9, LOW, HIGH}) {
            due("others: " + what, x.count(what), -1);
        }
        due("lines, those that were struck, too", Nets.of("net warm 0;weighs:1;weighs:2;counts:1=1;node;round 0;round 0;").count(8), 7);
        due("good links: by weights", Nets.of("net warm 0;node;node;link 0 1 loses 1;link 0 1 gains 1;weighs:0-told;").count(4), 1);
        due("good links: those that count", Nets.of("net warm 0;node;node;link 0 1 gains 1;link 0 1 gains 1;counts:link=1;").count(4), 2);
        Twins.unchanged("asked", Twins::rich, y -> y.count(4), 3);
        Twins.unchanged("others", Twins::rich, y -> y.count(9), -1);
    }

    private static void countFull() {
        Heads.head("Promise 49: count");
        FaceCuts x = Nets.of(Nets.WHEEL);
        for (int v = 0; v < 10; v++) {
            x.flip(v);
            due("calls that can be undone", x.count(6), v + 1);
        }
        due("ten nodes", x.count(0), 10);
        due("sixteen links", x.count(1), 16);
        due("ten nodes on side 1", x.count(3), 1023);
        due("sixteen good links", x.count(4), 65535);
        due("none cut", x.count(5), 0);
        x.warm(9);
        due("ten at most", x.count(6), 10);
        due("warmth 9", x.count(2), 9);
        due("lines", x.count(8), 28);
        FaceCuts y = Nets.of(Nets.ringOfSixteen(-1));
        due("no good links", y.count(4), 0);
        y.flip(1);
        due("sixteen cut", y.count(5), 65535);
        for (int i = 0; i < 45; i++) {
            y.feed(0, 0, 0, 0, 0);
        }
        due("a full tape", y.count(7), 900);
        y.feed(0, 0, 0, 0, 0);
        due("a full tape stays", y.count(7), 900);
    }
}
