/** Darts, faces, ways, the pairing, the cuts that follow from it, sentence by sentence; promises 19 to 31. */
final class FaceEdges {
    /** A triangle, and node 3 that hangs in its outer face; node 4 is bare. */
    private static final String HANGING = "net warm 0;node;node;node;node;node;link 0 1 gains 1;link 1 2 gains 1;link 2 0 gains 1;"
        + "link 0 3 gains 1;round 0 0 2 3;";
    private static final String SIXTEEN = Nets.SIXTEEN_LINKS;
    private static final String TWO_RINGS = "net warm 0;node;node;node;node;link 0 1 gains 1;link 0 1 loses 1;link 0 1 gains 1;link 0 1 loses 1;"
        + "link 2 3 gains 1;link 2 3 loses 1;link 2 3 gains 1;link 2 3 loses 1;round 1 3 2 1 0;round 3 7 6 5 4;";
    private static final int OFF = -99000000;
    private static final int LOW = Integer.MIN_VALUE;
    private static final int HIGH = Integer.MAX_VALUE;

    private FaceEdges() {
    }

    static void run() {
        faces();
        face();
        dart();
        parts();
        twists();
        odd();
        far();
        across();
        partner();
        join();
        proof();
        greatest();
        least();
        sameByHand();
    }

    private static void due(String sentence, long got, long want) {
        Heads.due(sentence, got, want);
    }

    // ---- promises 19 to 24

    private static void faces() {
        Heads.head("Promise 19: faces");
        due("no nodes", new FaceCuts().faces(), 0);
        due("no links", Nets.of("net warm 0;" + "node;".repeat(10)).faces(), 0);
        due("one link", Nets.of("net warm 0;node;node;link 0 1 gains 0;").faces(), 1);
        due("two links side by side", Nets.of(Nets.ring(1, 1)).faces(), 2);
        due("sixteen", Nets.of(Nets.ringOfSixteen(1)).faces(), 16);
        due("sixteen links as told", Nets.of(SIXTEEN).faces(), 2);
        due("of two parts", Nets.of(TWO_RINGS).faces(), 8);
        due("a wheel", Nets.of(Nets.WHEEL).faces(), 9);
        FaceCuts x = Nets.of(Nets.TWISTED);
        due("not flat", x.faces(), 1);
        x.turn(0, 1);
        due("as it lies now", x.faces(), 3);
        x.undo(1);
        due("undone", x.faces(), 1);
    }

    private static void face() {
        Heads.head("Promise 20: face");
        FaceCuts x = Nets.of(HANGING);
        int[][] want = {{5, 0, 1, 4}, {3, 1, 1, 3}};
        for (int f = 0; f < 2; f++) {
            due("how many darts, face " + f, x.face(f, 0), want[f][0]);
            due("the least dart, face " + f, x.face(f, 1), want[f][1]);
            due("odd, face " + f, x.face(f, 2), want[f][2]);
            due("how many unlike nodes, face " + f, x.face(f, 3), want[f][3]);
        }
        x.weigh(0, 0);
        due("not odd then: a link that weighs 0 isn't good", x.face(1, 2), 0);
        x.weigh(0, 1);
        x.weigh(3, -1);
        due("a link that lies twice on it makes none odd", x.face(0, 2), 1);
        for (int f : new int[] {-1, 2, 16, LOW, HIGH}) {
            for (int what = 0; what < 4; what++) {
                due("no face " + f, x.face(f, what), -2);
            }
        }
        for (int what : new int[] {-1, 4, LOW, HIGH}) {
            due("no what " + what, x.face(0, what), -2);
        }
        FaceCuts ring = Nets.of(Nets.ringOfSixteen(1));
        due("the last of sixteen", ring.face(15, 1), 29);
        due("the last of sixteen, darts", ring.face(15, 0), 2);
        due("the last of sixteen isn't odd", ring.face(15, 2), 0);
        due("behind sixteen", ring.face(16, 0), -2);
        due("all thirty-two darts in two", Nets.of(SIXTEEN).face(0, 0) + Nets.of(SIXTEEN).face(1, 0), 32);
        FaceCuts wheel = Nets.of(Nets.WHEEL);
        due("the outer one, darts", wheel.face(8, 0), 8);
        due("the outer one, the least", wheel.face(8, 1), 16);
        due("the outer one, eight good ones", wheel.face(8, 2), 0);
        due("the outer one, nodes", wheel.face(8, 3), 8);
        due("the first one, odd", wheel.face(0, 2), 1);
        due("not flat", Nets.of(Nets.TWISTED).face(0, 0), 10);
        due("not flat: nodes", Nets.of(Nets.TWISTED).face(0, 3), 4);
        Twins.unchanged("no face", Twins::rich, y -> y.face(2, 0), -2);
        Twins.unchanged("no what", Twins::rich, y -> y.face(0, 4), -2);
    }

    private static void dart() {
        Heads.head("Promise 21: dart");
        FaceCuts x = Nets.of(HANGING);
        int[][] want = {{0, 2, 4, 6, 7, -1}, {1, 5, 3, -1, -1, -1}};
        for (int f = 0; f < 2; f++) {
            for (int i = 0; i < 6; i++) {
                due("dart " + i + " of face " + f, x.dart(f, i), want[f][i]);
            }
            due("not so many: far off", x.dart(f, HIGH), -1);
            due("i is below 0", x.dart(f, -1), -3);
            due("i is below 0", x.dart(f, LOW), -3);
        }
        for (int f : new int[] {-1, 2, 16, LOW, HIGH}) {
            due("no face " + f, x.dart(f, 0), -2);
            due("no face ahead of -3: " + f, x.dart(f, -1), -2);
            due("no face ahead of NONE: " + f, x.dart(f, 99), -2);
        }
        FaceCuts dense = Nets.of(SIXTEEN);
        due("the last but one of sixteen", dense.dart(0, 14), 28);
        due("the last of sixteen", dense.dart(0, 15), 31);
        due("behind the last", dense.dart(0, 16), -1);
        Twins.unchanged("no face", Twins::rich, y -> y.dart(2, 0), -2);
        Twins.unchanged("below 0", Twins::rich, y -> y.dart(0, -1), -3);
        Twins.unchanged("not so many", Twins::rich, y -> y.dart(0, 3), -1);
    }

    private static void parts() {
        Heads.head("Promise 22: parts");
        due("no nodes", new FaceCuts().parts(), 0);
        for (int nodes = 1; nodes <= 10; nodes++) {
            due("no links", Nets.of("net warm 0;" + "node;".repeat(nodes)).parts(), nodes);
        }
        due("a link that gains 0 hangs together, too", Nets.of("net warm 0;node;node;link 1 0 gains 0;").parts(), 1);
        due("one and a bare node", Nets.of(Nets.WHEEL).parts(), 2);
        due("two", Nets.of(TWO_RINGS).parts(), 2);
        due("two that hang together by a later link", Nets.of(TWO_RINGS + "link 3 0 gains 0;").parts(), 1);
        due("a row told from its end", Nets.of("net warm 0;node;node;node;node;node;link 4 3 gains 0;link 1 2 gains 0;link 3 2 gains 0;").parts(), 2);
        due("not flat", Nets.of(Nets.TWISTED).parts(), 1);
    }

    private static void twists() {
        Heads.head("Promise 23: twists");
        due("no nodes", new FaceCuts().twists(), 0);
        for (int nodes = 1; nodes <= 10; nodes++) {
            due("nodes without links", Nets.of("net warm 0;" + "node;".repeat(nodes)).twists(), 0);
        }
        due("one link and bare nodes", Nets.of("net warm 0;" + "node;".repeat(10) + "link 9 4 gains 0;").twists(), 0);
        due("two parts", Nets.of(TWO_RINGS).twists(), 0);
        due("a wheel", Nets.of(Nets.WHEEL).twists(), 0);
        due("sixteen faces", Nets.of(Nets.ringOfSixteen(0)).twists(), 0);
        due("one", Nets.of(Nets.TWISTED).twists(), 1);
        due("two links crossed at both ends", Nets.of("net warm 0;node;node;" + "link 0 1 gains 1;".repeat(3)).twists(), 1);
        due("seven", Nets.of(SIXTEEN).twists(), 7);
        String eight = "link 0 1 gains 1;".repeat(8);
        due("of both parts", Nets.of("net warm 0;node;node;node;node;node;" + eight + eight.replace("0 1", "3 4")).twists(), 6);
    }

    private static void odd() {
        Heads.head("Promise 24: odd");
        due("none", new FaceCuts().odd(), 0);
        due("good links: above 0", Nets.of(Nets.ring(1, 0, -1, 99)).odd(), 0b1010);
        due("good links: 0 is none", Nets.of(Nets.ring(1, 0)).odd(), 3);
        due("good links: less than 0 is none", Nets.of(Nets.ring(-99, 1)).odd(), 3);
        due("two good ones", Nets.of(Nets.ring(1, 1)).odd(), 0);
        due("a link twice on a face", Nets.of("net warm 0;node;node;link 0 1 gains 5;").odd(), 0);
        due("by weights, not by what they gain", Nets.of("net warm 0;node;node;link 0 1 gains 1;link 0 1 gains 1;weighs:0-link;").odd(), 0);
        due("by what counts", Nets.of("net warm 0;node;node;link 0 1 gains 1;link 0 1 gains 1;counts:link=1;").odd(), 3);
        due("a wheel", Nets.of(Nets.WHEEL).odd(), 255);
        FaceCuts x = Nets.of(Nets.ring(1, -1, 1, -1, 1, -1, 1, -1, 1, -1, 1, -1, 1, -1, 1, -1));
        due("sixteen", x.odd(), 65535);
        x.weigh(15, 1);
        due("fourteen", x.odd(), 65535 ^ 1 << 15 ^ 1);
        due("not flat", Nets.of(SIXTEEN).odd(), 0);
        FaceCuts three = Nets.of("net warm 0;node;node;" + "link 0 1 gains 1;".repeat(3) + "link 0 1 gains 0;");
        due("not flat, two faces", three.odd(), 3);
    }

    // ---- promises 25, 26

    private static void far() {
        Heads.head("Promise 25: far");
        FaceCuts x = Nets.of(Nets.ring(3, -1, 2, 0));
        int[][] want = {{0, 3, 2, 0}, {3, 0, 1, 3}, {2, 1, 0, 2}, {0, 3, 2, 0}};
        for (int f = 0; f < 4; f++) {
            for (int g = 0; g < 4; g++) {
                due("the signs aside, from " + f + " to " + g, x.far(f, g), want[f][g]);
            }
        }
        for (int f : new int[] {-1, 4, 16, LOW, HIGH}) {
            due("no face " + f, x.far(f, 0), -2);
            due("no face " + f, x.far(0, f), -2);
            due("no face " + f, x.far(f, f), -2);
        }
        x.weigh(0, 7);
        due("by weights as they are", x.far(0, 1), 3);
        x.weigh(1, -50);
        due("by weights as they are", x.far(0, 1), 7);
        FaceCuts two = Nets.of(TWO_RINGS);
        due("there is no way", two.far(0, 4), -1);
        due("there is no way", two.far(7, 3), -1);
        due("there is one", two.far(7, 5), 2);
        FaceCuts ring = Nets.of(Nets.ringOfSixteen(99));
        due("the farthest", ring.far(0, 8), 792);
        due("the other way round", ring.far(1, 15), 198);
        due("behind the last", ring.far(15, 16), -2);
        due("not flat", Nets.of(SIXTEEN).far(0, 1), 1);
        due("a face that meets itself across a link", Nets.of("net warm 0;node;node;link 0 1 gains 5;").far(0, 0), 0);
        due("by weights, not by what links gain", Nets.of("net warm 0;node;node;link 0 1 gains 5;link 0 1 gains 9;weighs:0-30-link;").far(0, 1), 30);
        Twins.unchanged("no face", Twins::rich, y -> y.far(0, 2), -2);
    }

    private static void across() {
        Heads.head("Promise 26: across");
        FaceCuts x = Nets.of(Nets.ring(3, -1, 2, 0));
        way("the lightest: of like ones that of the fewest links", x, 0, 1, 0);
        way("the lightest", x, 1, 0, 0);
        way("the lightest: lighter by more links", x, 0, 2, 3, 2);
        way("the lightest: back", x, 2, 0, 2, 3);
        way("of like ones the fewest", x, 1, 3, 0, 3);
        way("itself", x, 2, 2);
        FaceCuts like = Nets.of(Nets.ring(1, 1, 1, 1));
        way("of like ones the least first", like, 0, 2, 0, 1);
        way("of like ones the least first: from the other end", like, 2, 0, 1, 0);
        way("of like ones the least first", like, 1, 3, 0, 3);
        way("of like ones the least first", like, 3, 1, 2, 1);
        // Two links in a row lie between faces 1 and 2, two heavier ones between 0 and 2.
        FaceCuts row = Nets.of("net warm 0;node;node;node;node;link 0 1 gains 1;link 0 2 gains 1;link 2 1 gains 1;link 0 3 gains 9;link 3 1 gains 9;"
            + "round 1 4 2 0;");
        way("of like ones the least first, then so on", row, 0, 2, 0, 1);
        way("of like ones the least first, then so on", row, 2, 0, 1, 0);
        FaceCuts wheel = Nets.of(Nets.WHEEL);
        way("of like ones the least first: by spokes, not outside", wheel, 1, 3, 1, 2);
        way("of like ones the least first: by spokes, not outside", wheel, 3, 1, 2, 1);
        way("outside", wheel, 1, 4, 8, 11);
        way("outside", wheel, 4, 1, 11, 8);
        way("of like ones the least first", wheel, 0, 6, 7, 6);
        FaceCuts none = Nets.of(Nets.ring(0, 0, 0, 0, 0, 0, 0, 0, 0, 0, 0, 0, 0, 0, 0, 99));
        way("the longest", none, 0, 15, 0, 1, 2, 3, 4, 5, 6, 7, 8, 9, 10, 11, 12, 13, 14);
        way("the longest, back", none, 15, 0, 14, 13, 12, 11, 10, 9, 8, 7, 6, 5, 4, 3, 2, 1, 0);
        way("of two links between two faces the least of the lightest", Nets.of(Nets.ring(2, 1)), 0, 1, 1);
        way("of two links between two faces the least of like ones", Nets.of(Nets.ring(-1, 1)), 1, 0, 0);
        FaceCuts two = Nets.of(TWO_RINGS);
        way("no way", two, 0, 4);
        due("no way, -3 ahead of NONE", two.across(0, 4, -1), -3);
        for (int f : new int[] {-1, 4, 16, LOW, HIGH}) {
            due("no face " + f, x.across(f, 0, 0), -2);
            due("no face " + f, x.across(0, f, 0), -2);
            due("no face " + f + " ahead of -3", x.across(0, f, -1), -2);
            due("no face " + f + " ahead of NONE", x.across(f, 0, 99), -2);
        }
        due("i is below 0", x.across(0, 2, -1), -3);
        due("i is below 0", x.across(2, 2, LOW), -3);
        due("not so many", x.across(0, 2, HIGH), -1);
        way("not flat", Nets.of(SIXTEEN), 0, 1, 0);
        Twins.unchanged("no face", Twins::rich, y -> y.across(2, 0, 0), -2);
        Twins.unchanged("below 0", Twins::rich, y -> y.across(0, 1, -1), -3);
    }

    private static void way(String sentence, FaceCuts x, int f, int g, int... links) {
        for (int i = 0; i < links.length; i++) {
            due(sentence + ", " + f + " to " + g + ", link " + i, x.across(f, g, i), links[i]);
        }
        due(sentence + ", " + f + " to " + g + ", no more", x.across(f, g, links.length), -1);
        due(sentence + ", " + f + " to " + g + ", no more by far", x.across(f, g, links.length + 16), -1);
    }

    // ---- promises 27 to 31

    private static void partners(String sentence, FaceCuts x, int... partners) {
        for (int f = 0; f < partners.length; f++) {
            due(sentence + ", face " + f, x.partner(f), partners[f]);
        }
        due(sentence + ", no more faces", x.partner(partners.length), -2);
    }

    private static void partner() {
        Heads.head("Promise 27: partner");
        partners("a pair", Nets.of(Nets.TRIANGLE), 1, 0);
        partners("faces that aren't odd", Nets.of(Nets.ring(1, 1, 1)), -1, -1, -1);
        partners("two odd ones of four", Nets.of(Nets.ring(1, 0, -1, 5)), -1, 3, -1, 1);
        partners("together the lightest, not the nearest first", Nets.of(Nets.ring(3, -1, 3, -99)), 1, 0, 3, 2);
        partners("together the lightest", Nets.of(Nets.ring(3, -1, 3, -1)), 3, 2, 1, 0);
        partners("of like ones of the fewest links in all", Nets.of(Nets.ring(1, 1, -2, 1, 1, -2)), 5, -1, 3, 2, -1, 0);
        partners("of like ones: the first face with the least partner", Nets.of(Nets.ring(1, -1, 1, -1)), 1, 0, 3, 2);
        partners("then so on", Nets.of(TWO_RINGS), 1, 0, 3, 2, 5, 4, 7, 6);
        partners("a wheel", Nets.of(Nets.WHEEL), 1, 0, 3, 2, 5, 4, 7, 6, -1);
        FaceCuts sixteen = Nets.of(Nets.ring(1, -2, 1, -2, 1, -2, 1, -2, 1, -2, 1, -2, 1, -2, 1, -2));
        partners("sixteen", sixteen, 1, 0, 3, 2, 5, 4, 7, 6, 9, 8, 11, 10, 13, 12, 15, 14);
        for (int f : new int[] {-1, 16, LOW, HIGH}) {
            due("no face " + f, sixteen.partner(f), -2);
        }
        FaceCuts x = Nets.of(Nets.TWISTED);
        due("not flat", x.partner(0), -5);
        due("not flat, no face", x.partner(1), -2);
        due("not flat, no face", x.partner(-1), -2);
        x.turn(0, 1);
        due("flat then", x.partner(0), 2);
        due("flat then, not odd", x.partner(1), -1);
        Twins.unchanged("no face", Twins::rich, y -> y.partner(2), -2);
        Twins.unchanged("not flat", Twins::twisted, y -> y.partner(0), -5);
    }

    private static void join() {
        Heads.head("Promise 28: join");
        due("no nodes", new FaceCuts().join(), 0);
        due("no odd faces", Nets.of(Nets.ring(1, 1, 1)).join(), 0);
        due("one pair", Nets.of(Nets.TRIANGLE).join(), 2);
        due("one pair by two links", Nets.of(Nets.ring(5, 0, 0, 5)).join(), 0b0110);
        due("one pair by the lighter two", Nets.of(Nets.ring(1, 0, -1, 2)).join(), 0b0110);
        due("from the lesser face, not from the greater one", Nets.of(Nets.ring(1, -1, -1, 1)).join(), 0b1001);
        due("by the least of like links", Nets.of(Nets.ring(-1, 1)).join(), 1);
        due("two pairs", Nets.of(Nets.ring(3, -1, 3, -1)).join(), 0b1010);
        due("two pairs: of the fewest links", Nets.of(Nets.ring(1, 1, -2, 1, 1, -2)).join(), 0b100100);
        due("eight pairs", Nets.of(Nets.ring(1, -2, 1, -2, 1, -2, 1, -2, 1, -2, 1, -2, 1, -2, 1, -2)).join(), 0x5555);
        due("a wheel", Nets.of(Nets.WHEEL).join(), 85);
        due("not flat", Nets.of(Nets.TWISTED).join(), -5);
        Twins.unchanged("not flat", Twins::twisted, y -> y.join(), -5);
    }

    private static void proof() {
        Heads.head("Promise 29: proof");
        due("no nodes", new FaceCuts().proof(0) + new FaceCuts().proof(1), 0);
        FaceCuts x = Nets.of(Nets.ring(3, -1, 3, -1));
        due("weights of good links", x.proof(0), 6);
        due("of the join, the signs aside", x.proof(1), 2);
        due("the one less the other is the worth", x.greatest(0), 4);
        FaceCuts wheel = Nets.of(Nets.WHEEL);
        due("of a wheel", wheel.proof(0), 16);
        due("of a wheel's join", wheel.proof(1), 4);
        FaceCuts eight = Nets.of(Nets.ring(9, -1, 9, -1, 9, -1, 9, -1, 9, -1, 9, -1, 9, -1, 9, -2));
        due("of eight pairs", eight.proof(0), 72);
        due("of eight pairs' join, the last link, too", eight.proof(1), 9);
        FaceCuts first = Nets.of(Nets.ring(-1, 9, -2, 9));
        due("of two pairs' join, the first link, too", first.proof(1), 3);
        FaceCuts most = Nets.of(Nets.ringOfSixteen(99));
        due("the most there is", most.proof(0), 1584);
        due("no join", most.proof(1), 0);
        FaceCuts none = Nets.of(Nets.ringOfSixteen(-99));
        due("no good links", none.proof(0), 0);
        due("no good links, no join", none.proof(1), 0);
        due("by weights", Nets.of("net warm 0;node;node;link 0 1 gains 1;weighs:44;").proof(0), 44);
        for (int what : new int[] {-1, 2, LOW, HIGH}) {
            due("no what " + what, x.proof(what), -2);
            due("no what ahead of -5: " + what, Nets.of(Nets.TWISTED).proof(what), -2);
        }
        due("not flat", Nets.of(Nets.TWISTED).proof(0), -5);
        due("not flat", Nets.of(Nets.TWISTED).proof(1), -5);
        Twins.unchanged("no what", Twins::rich, y -> y.proof(2), -2);
        Twins.unchanged("not flat", Twins::twisted, y -> y.proof(0), -5);
    }

    /** Nodes 0 to 9, each with the next one; told from the first or from the last on. */
    private static String rowOfTen(int from, int to, boolean upward) {
        StringBuilder s = new StringBuilder(Nets.TEN_NODES);
        for (int i = 0; i < 9; i++) {
            int v = upward ? i : 8 - i;
            s.append("link ").append(v + from).append(' ').append(v + to).append(" gains 1;");
        }
        return s.toString();
    }

    private static void cut(String sentence, FaceCuts x, int worth, int links, int nodes) {
        due(sentence + ": worth", x.greatest(0), worth);
        due(sentence + ": links", x.greatest(1), links);
        due(sentence + ": nodes on side 1", x.greatest(2), nodes);
    }

    private static void greatest() {
        Heads.head("Promise 30: greatest");
        cut("no nodes", new FaceCuts(), 0, 0, 0);
        cut("no links", Nets.of("net warm 0;" + "node;".repeat(10)), 0, 0, 0);
        cut("a triangle", Nets.of(Nets.TRIANGLE), 9, 5, 6);
        cut("a wheel: bare nodes on 0", Nets.of(Nets.WHEEL), 12, 65535 ^ 85, 340);
        cut("good links and the join, but for those in both", Nets.of(Nets.ring(3, -1, 3, -1)), 4, 15, 2);
        cut("good ones that are all in the join", Nets.of(Nets.ring(3, -1, 3, -99)), 0, 0, 0);
        cut("of like ones that which the join makes", Nets.of(Nets.ring(1, -1, -1, 1)), 0, 0, 0);
        cut("of like ones that which the join makes", Nets.of(Nets.ring(-1, 1)), 0, 3, 2);
        cut("of like ones that which the join makes", Nets.of(Nets.ring(1, -1)), 0, 0, 0);
        cut("links that weigh 0 are none", Nets.of("net warm 0;node;node;link 0 1 gains 0;"), 0, 0, 0);
        cut("links that weigh 0 in the join", Nets.of(Nets.ring(1, 0, 0)), 1, 7, 2);
        cut("the least node of each part on 0", Nets.of("net warm 0;" + "node;".repeat(6) + "link 3 1 gains 2;link 4 2 gains 1;link 5 4 gains 1;"),
            4, 7, 8 + 16);
        cut("a row from the first node on", Nets.of(rowOfTen(0, 1, true)), 9, 511, 682);
        cut("a row told from its end", Nets.of(rowOfTen(0, 1, false)), 9, 511, 682);
        cut("a row, each link back", Nets.of(rowOfTen(1, 0, true)), 9, 511, 682);
        cut("a row told from its end, each link back", Nets.of(rowOfTen(1, 0, false)), 9, 511, 682);
        cut("a row of which one link loses", Nets.of("net warm 0;node;node;node;node;link 3 2 gains 1;link 1 2 loses 1;link 0 1 gains 1;"), 2, 5, 6);
        cut("a row 0, 2, 1 of which one link loses", Nets.of("net warm 0;node;node;node;link 0 2 gains 1;link 1 2 loses 1;"), 1, 1, 6);
        cut("the most there is", Nets.of(Nets.ringOfSixteen(99)), 1584, 65535, 2);
        FaceCuts x = Nets.of(Nets.ring(99, -98, 99, -98, 99, -98, 99, -98, 99, -98, 99, -98, 99, -98, 99, -98));
        cut("sixteen odd faces", x, 8, 65535, 2);
        x.flip(0);
        cut("whatever the sides are", x, 8, 65535, 2);
        x.weigh(0, 80);
        cut("none is greater than that of no links", x, 0, 0, 0);
        for (int what : new int[] {-1, 3, LOW, HIGH}) {
            due("no what " + what, x.greatest(what), OFF - 2);
            due("no what ahead of -5: " + what, Nets.of(Nets.TWISTED).greatest(what), OFF - 2);
        }
        for (int what = 0; what < 3; what++) {
            due("not flat: " + what, Nets.of(Nets.TWISTED).greatest(what), OFF - 5);
        }
        Twins.unchanged("no what", Twins::rich, y -> y.greatest(3), OFF - 2);
        Twins.unchanged("not flat", Twins::twisted, y -> y.greatest(0), OFF - 5);
    }

    private static void leastCut(String sentence, FaceCuts x, int worth, int links, int nodes) {
        due(sentence + ": worth", x.least(0), worth);
        due(sentence + ": links", x.least(1), links);
        due(sentence + ": nodes on side 1", x.least(2), nodes);
    }

    private static void least() {
        Heads.head("Promise 31: least");
        leastCut("no nodes", new FaceCuts(), 0, 0, 0);
        leastCut("no links that lose", Nets.of(Nets.TRIANGLE), 0, 0, 0);
        FaceCuts x = Nets.of(Nets.TRIANGLE);
        x.weigh(0, -5);
        x.weigh(1, -3);
        leastCut("its worth by weights as they are", x, -8, 3, 2);
        x.weigh(2, -4);
        leastCut("a pair by weights of the other sign", x, -9, 5, 6);
        leastCut("of like ones that which the join makes", Nets.of(Nets.ring(-1, 1, 1, -1)), 0, 0, 0);
        leastCut("of like ones that which the join makes", Nets.of(Nets.ring(1, -1)), 0, 3, 2);
        leastCut("links that weigh 0 are none", Nets.of("net warm 0;node;node;link 0 1 gains 0;"), 0, 0, 0);
        leastCut("links that weigh 0 in the join", Nets.of(Nets.ring(-1, 0, 0)), -1, 7, 2);
        leastCut("good ones that are all in the join", Nets.of(Nets.ring(-3, 1, -3, 99)), 0, 0, 0);
        leastCut("the least there is", Nets.of(Nets.ringOfSixteen(-99)), -1584, 65535, 2);
        leastCut("the least node of each part on 0", Nets.of("net warm 0;" + "node;".repeat(6) + "link 3 1 loses 2;link 4 2 loses 1;link 5 4 loses 1;"),
            -4, 7, 8 + 16);
        FaceCuts sixteen = Nets.of(Nets.ring(-99, 98, -99, 98, -99, 98, -99, 98, -99, 98, -99, 98, -99, 98, -99, 98));
        leastCut("sixteen odd faces", sixteen, -8, 65535, 2);
        for (int what : new int[] {-1, 3, LOW, HIGH}) {
            due("no what " + what, x.least(what), OFF - 2);
            due("no what ahead of -5: " + what, Nets.of(Nets.TWISTED).least(what), OFF - 2);
        }
        for (int what = 0; what < 3; what++) {
            due("not flat: " + what, Nets.of(Nets.TWISTED).least(what), OFF - 5);
        }
        Twins.unchanged("no what", Twins::rich, y -> y.least(-1), OFF - 2);
        Twins.unchanged("not flat", Twins::twisted, y -> y.least(2), OFF - 5);
    }

    /** All that is asked behind a deed fits the net as it is then. */
    private static void sameByHand() {
        Heads.head("Terms 3: the net as it is now");
        String[] nets = {Nets.TRIANGLE, Nets.WHEEL, TWO_RINGS, HANGING, Nets.ring(5, -3, 2, -7, 4)};
        for (String net : nets) {
            FaceCuts x = Nets.of(net);
            String sentence = "of a net of " + net.length() + " bytes, ";
            for (int l = 0; l < x.count(1); l++) {
                x.weigh(l, 37 * l % 23 - 11);
                due(sentence + "greatest, all", x.greatest(0), x.all(0));
                due(sentence + "least, all", x.least(0), x.all(1));
                due(sentence + "proof", x.proof(0) - x.proof(1), x.greatest(0));
                x.sides();
                due(sentence + "worth", x.worth(), x.all(0));
                due(sentence + "steps", x.steps(), 0);
                due(sentence + "cut", x.count(5), x.greatest(1));
            }
        }
    }
}
