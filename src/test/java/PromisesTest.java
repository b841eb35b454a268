/** Each promise of the document by hand: ordinary inputs, the edges that it names, wrong inputs. */
public final class PromisesTest {
    private static final String TRIANGLE = Nets.TRIANGLE;
    private static final String TWISTED = Nets.TWISTED;
    private static final int OFF = -99000000;
    private static final int LOW = Integer.MIN_VALUE;
    private static final int HIGH = Integer.MAX_VALUE;

    private PromisesTest() {
    }

    private static void due(String what, long got, long want) {
        Nets.due(what, got, want);
    }

    public static void main(String[] args) {
        newObject();
        feed();
        net();
        faults();
        lines();
        bounds();
        nesting();
        laws();
        linkWeightRoundNext();
        weighFlipTurnWarm();
        fallAndSides();
        undo();
        judgeAndPerform();
        deeds();
        day();
        faces();
        partsTwistsOdd();
        ways();
        pairing();
        sixteenOdd();
        cuts();
        worthAndGain();
        allCuts();
        weighed();
        chances();
        trays();
        images();
        count();
        Nets.end();
    }

    private static void newObject() {
        FaceCuts x = new FaceCuts();
        due("new: nodes", x.count(0), 0);
        due("new: warmth", x.count(2), 0);
        due("new: lines", x.count(8), 0);
        due("new: parts", x.parts(), 0);
        due("new: best", x.best(), 1);
        due("new: NONE", FaceCuts.NONE, -1);
        due("new: flip", x.flip(0), OFF - 11);
        due("new: warm", x.warm(9), 0);
        due("new: day", x.day(5, 40) > 0 ? 1 : 0, 1);
        due("new: greatest", x.greatest(2), 0);
        due("new: mean", x.mean(4, 1), 1);
    }

    private static void feed() {
        FaceCuts x = new FaceCuts();
        for (int i = 1; i <= 45; i++) {
            due("feed " + i, x.feed(0x6e657420, 0x7761726d, 0x20303b20, 0x20202020, 0x20202020), 20 * i);
        }
        due("feed: more than 900", x.feed(0, 0, 0, 0, 0), -5);
        due("feed: nothing came", x.count(7), 900);
        due("feed: the highest byte first", x.net(11), 1);
        due("feed: again", x.feed(-1, -1, -1, -1, -1), 20);
        due("feed: bytes above 127 are no tokens", x.net(1), -31);
    }

    private static void net() {
        FaceCuts x = new FaceCuts();
        due("net: 0 of nothing", x.net(0), -32);
        due("net: place", x.fault(1), 0);
        due("net: above what there is", x.net(1), -3);
        due("net: below 0", x.net(-1), -3);
        due("net: low", x.net(LOW), -3);
        due("net: high", x.net(HIGH), -3);
        due("net: -3 isn't read", x.fault(0), 2);
        due("net", Nets.read(x, TRIANGLE), 7);
        due("net: fault 0", x.fault(0), 0);
        due("net: no place", x.fault(1), -1);
        due("net: tape is empty", x.count(7), 0);
        x.flip(1);
        Nets.feed(x, "net warm 1;");
        due("net: part of the tape", x.net(10), -32);
        due("net: the place is the text's length", x.fault(1), 10);
        due("net: tape is empty behind a fault", x.count(7), 0);
        due("net: a fault changes no sides", x.count(3), 2);
        due("net: nor what can be undone", x.count(6), 1);
        due("net: nor lines", x.count(8), 7);
        Nets.feed(x, TRIANGLE);
        due("net: -3", x.net(900), -3);
        due("net: the tape stays", x.count(7), 100);
        due("net: again", x.net(100), 7);
        due("net: sides are 0", x.count(3), 0);
        due("net: nothing can be undone", x.undo(1), -3);
        due("fault of others", x.fault(2), -1);
        due("fault of others", x.fault(-1), -1);
    }

    /** A text, its fault and where. */
    private static void fault(String text, int kind, int place) {
        FaceCuts x = Nets.of(TRIANGLE);
        due("net of " + text, Nets.read(x, text), -30 - kind);
        due("fault of " + text, x.fault(0), kind);
        due("place in " + text, x.fault(1), place);
        due("links stay behind " + text, x.count(1), 3);
    }

    private static void faults() {
        fault("  \n ", 2, 4);
        fault("node;", 2, 0);
        fault("Net warm 0;", 1, 0);
        fault("net\twarm 0;", 1, 3);
        fault("net warm;", 2, 8);
        fault("net warm 0", 2, 10);
        fault("net warm 10;", 3, 9);
        fault("net warm 0000;", 1, 9);
        fault("net warm 0;;", 2, 11);
        fault("net warm 0;net warm 0;", 2, 11);
        fault("net warm 0;nodes;", 2, 11);
        fault("net warm 0;node", 2, 15);
        fault("net warm 0;node 1;", 2, 16);
        fault("net warm 0;node;?", 1, 16);
        fault("net warm 0;told;", 2, 11);
        fault("net warm 0;weighs 1;", 2, 18);
        fault("net warm 0;weighs:;", 2, 18);
        fault("net warm 0;weighs:1+;", 2, 20);
        fault("net warm 0;weighs:1=1;", 2, 19);
        fault("net warm 0;weighs:-1;", 2, 18);
        fault("net warm 0;weighs:[1];", 2, 18);
        fault("net warm 0;weighs:1000;", 1, 18);
        fault("net warm 0;weighs:(1;", 2, 20);
        fault("net warm 0;weighs:warmth;", 2, 18);
        fault("net warm 0;weighs:if 1=1 then 2 else 3;", 2, 38);
        fault("net warm 0;weighs:if 1=1 then 2 end;", 2, 32);
        fault("net warm 0;weighs:if 1 then 2 else 3 end;", 2, 23);
        fault("net warm 0;counts:1;", 2, 19);
        fault("net warm 0;counts:(1=1);", 2, 20);
        fault("net warm 0;counts:1=1=1;", 2, 21);
        fault("net warm 0;counts:not;", 2, 21);
        fault("net warm 0;counts:[1=1;", 2, 22);
        fault("net warm 0;counts:1=1 or;", 2, 24);
        fault("net warm 0;counts:1<>1;", 2, 20);
    }

    private static void lines() {
        due("blanks are free", Nets.of("\nnet\nwarm 5\n;\n").count(2), 5);
        due("words and numbers end one another", Nets.of("net warm5;node;node;link0 1gains007;").weight(0), 7);
        due("lines of all sorts", Nets.of("net warm 0;node;node;link 0 1 loses 0;round 0;weighs:1;counts:1=1;weighs:2;").count(8), 8);
        due("the later law counts", Nets.of("net warm 0;node;node;link 0 1 loses 0;weighs:1;weighs:2;").weight(0), 2);
        due("the later law counts", Nets.of("net warm 0;node;node;link 0 1 gains 9;counts:1=2;counts:1=1;").weight(0), 9);
        FaceCuts x = Nets.of("net warm 0;node;node;link 0 1 gains 1;link 1 0 gains 1;round 0 1 0;link 0 1 gains 1;round 1 2;round 1;");
        due("round: told first", x.round(0, 0), 1);
        due("round: then as told", x.round(0, 1), 0);
        due("round: then the others", x.round(0, 2), 2);
        due("round: a later one strikes", x.round(1, 0), 0);
    }

    private static void bounds() {
        fault("net warm 0;link 0 1 gains 1;", 3, 16);
        fault("net warm 0;node;link 0 1 gains 1;", 3, 23);
        fault("net warm 0;node;node;link 1 1 gains 1;", 3, 28);
        fault("net warm 0;node;node;link 0 1 gains 100;", 3, 36);
        fault("net warm 0;node;node;link 0 1 loses 999;", 3, 36);
        fault("net warm 0;node;node;link 0 1 costs 1;", 2, 30);
        fault("net warm 0;round 0;", 3, 17);
        fault("net warm 0;node;round 0 0;", 3, 24);
        fault("net warm 0;node;node;node;link 0 1 gains 3;round 2 0;", 3, 51);
        fault("net warm 0;node;node;node;link 0 1 gains 3;round 0 0 0;", 3, 53);
        fault("net warm 0;node;node;link 0 1 gains 3;round 0 0 link;", 2, 48);
        String ten = "net warm 0;" + "node;".repeat(10);
        due("ten nodes", Nets.of(ten).count(0), 10);
        fault(ten + "node", 4, 61);
        String full = "net warm 0;node;node;" + "link 0 1 gains 1;".repeat(16);
        due("sixteen links", Nets.of(full).count(1), 16);
        fault(full + "link ?", 4, 21 + 16 * 17);
        due("all sixteen round", Nets.of(full + "round 0 15 14 13 12 11 10 9 8 7 6 5 4 3 2 1 0;").round(0, 15), 0);
        fault(full + "round 0 15 14 13 12 11 10 9 8 7 6 5 4 3 2 1 0 0;", 3, 21 + 16 * 17 + 46);
        FaceCuts x = Nets.of(full + "weighs:warm;");
        Nets.tray(x, 0, 15105);
        due("warms: the last link", x.warms(0), 32);
        due("ask: of sixteen", x.ask(0), 0);
        due("to the last byte", Nets.of(full + " ".repeat(900 - full.length())).count(8), 19);
    }

    private static void nesting() {
        String head = "net warm 0;node;node;link 0 1 gains 1;";
        due("six (", Nets.of(head + "weighs:((((((7))))));").weight(0), 7);
        fault(head + "weighs:(((((((7)))))));", 4, 51);
        due("six not", Nets.of(head + "counts:not not not not not not 1=1;").weight(0), 1);
        fault(head + "counts:not not not not not not not 1=1;", 4, 69);
        due("six [", Nets.of(head + "counts:[[[[[[1=2]]]]]];").weight(0), 0);
        fault(head + "counts:[[[[[[[1=2]]]]]]];", 4, 51);
        fault(head + "counts:not[not[not(1)=if [1=1] then 2 else 3 end]];", 4, 63);
        due("all of them six deep", Nets.of(head + "counts:not[not[(if 1=1 then 2 else 3 end)=2]];").weight(0), 1);
        due("side by side is not within", Nets.of(head + "weighs:" + "(1)+".repeat(20) + "(1);").weight(0), 21);
        due("a not ends with its unit", Nets.of(head + "counts:not 1=2" + " and not 1=2".repeat(8) + ";").weight(0), 1);
        fault(head + "counts:((((((1+[", 2, 53);
        fault(head + "counts:[[[[[[1=1 and not 1=1", 4, 59);
        fault(head + "counts:[[[[[[1=1 or [1=1", 4, 58);
        fault(head + "weighs:((((((1*(", 4, 53);
        fault(head + "weighs:((((((1+if", 4, 53);
        fault(head + "counts:[[[[[[1=(", 4, 53);
    }

    private static int law(String law) {
        return Nets.of("net warm 4;node;node;node;link 0 1 gains 1;link 2 1 loses 7;" + law + ";").weight(1);
    }

    private static void laws() {
        due("told", law("weighs:told"), -7);
        due("from", law("weighs:from"), 2);
        due("to", law("weighs:to"), 1);
        due("link", law("weighs:link"), 1);
        due("warm", law("weighs:warm"), 4);
        due("99 at most", law("weighs:100"), 99);
        due("-99 at least", law("weighs:told*99"), -99);
        due("from the left", law("weighs:10-3-2"), 5);
        due("* ahead of +", law("weighs:2+3*4"), 14);
        due("brackets", law("weighs:(2+3)*4"), 20);
        // 999 times 999 is 1999 less than a million.
        due("* is kept", law("weighs:999*999*999-999*999-999-991"), 9);
        due("* is kept below", law("weighs:(0-999)*999*999+999*999+999+991"), -9);
        due("+ is kept", law("weighs:999*999+999+999+999-999*999-999-996"), 4);
        due("- is kept", law("weighs:0-999*999-999-999-999+999*999+999+996"), -4);
        due("a million times a million is kept", law("weighs:999*999*999*(999*999*999)-999*999-999-991"), 9);
        due("less a million times a million is kept", law("weighs:999*999*999*((0-999)*999*999)+999*999+999+991"), -9);
        due("if", law("weighs:if told<0 then 5 else 6 end"), 5);
        due("else", law("weighs:if told>0 then 5 else 6 end+1"), 7);
        due("or behind and", law("counts:1=1 or 1=2 and 1=2"), -7);
        due("not of a unit", law("counts:not 1=2 and 1=2"), 0);
        due("[ ]", law("counts:[1=1 or 1=2] and 1=2"), 0);
        due("counts doesn't hold", law("weighs:50;counts:link=0"), 0);
        due("counts holds", law("weighs:50;counts:link>0"), 50);
    }

    private static void linkWeightRoundNext() {
        FaceCuts x = Nets.of(TRIANGLE);
        due("link: first node", x.link(2, 0), 2);
        due("link: second node", x.link(2, 1), 0);
        due("link: first face", x.link(1, 2), 0);
        due("link: second face", x.link(1, 3), 1);
        due("link: no such link", x.link(3, 0), -2);
        due("link: no such link", x.link(-1, 0), -2);
        due("link: what", x.link(0, 4), -2);
        due("link: what", x.link(0, -1), -2);
        due("link: far off", x.link(HIGH, HIGH), -2);
        due("weight", x.weight(2), 4);
        due("weight: none", x.weight(3), OFF - 2);
        due("weight: none", x.weight(LOW), OFF - 2);
        due("round", x.round(2, 1), 2);
        due("round: not so many", x.round(2, 2), -1);
        due("round: not so many", x.round(2, HIGH), -1);
        due("round: no node", x.round(3, -1), -2);
        due("round: below 0", x.round(2, -1), -3);
        due("next", x.next(5), 3);
        due("next: none", x.next(6), -2);
        due("next: none", x.next(-1), -2);
        due("next at a node's only link", Nets.of("net warm 0;node;node;link 1 0 gains 1;").next(0), 1);
    }

    private static void weighFlipTurnWarm() {
        FaceCuts x = Nets.of(TWISTED);
        due("weigh", x.weigh(1, 99), -4);
        due("weigh: least", x.weigh(1, -99), 99);
        due("weigh: out of bounds", x.weigh(1, 100), OFF - 11);
        due("weigh: out of bounds", x.weigh(1, -100), OFF - 11);
        due("weigh: no link", x.weigh(5, 0), OFF - 11);
        due("weigh: no link", x.weigh(-1, 0), OFF - 11);
        due("weighed", x.weight(1), -99);
        due("flip", x.flip(2), -99 + 7 + 3);
        due("flip back", x.flip(2), 0);
        due("flip: no node", x.flip(4), OFF - 11);
        due("flip: no node", x.flip(-1), OFF - 11);
        due("turn", x.turn(0, 1), 0);
        due("turn back", x.turn(0, 1), 1);
        due("turn: the last place", x.turn(0, 2), -11);
        due("turn: place", x.turn(0, -1), -11);
        due("turn: place", x.turn(0, HIGH), -11);
        due("turn: node", x.turn(4, 0), -11);
        due("warm", x.warm(0), 2);
        due("warm", x.warm(9), 0);
        due("warm: none", x.warm(10), -11);
        due("warm: none", x.warm(-1), -11);
        due("refused calls can't be undone", x.count(6), 8);
    }

    private static void fallAndSides() {
        FaceCuts x = Nets.of("net warm 0;node;node;node;node;link 0 1 gains 2;link 2 3 gains 2;");
        due("fall", x.fall(), 4);
        due("fall: the first of like ones", x.count(3), 5);
        due("fall: at its end", x.fall(), 4);
        due("fall can be undone even so", x.count(6), 2);
        due("sides", x.sides(), 4);
        due("sides: the least node of each part on 0", x.count(3), 10);
        due("sides again", x.sides(), 0);
        due("sides can be undone even so", x.count(6), 4);
        x = Nets.of(TWISTED);
        due("sides: not flat", x.sides(), -5);
        due("sides: not flat, nothing to undo", x.count(6), 0);
        due("fall", x.fall(), 20);
        due("fall: most first", x.count(3), 9);
    }

    private static void undo() {
        FaceCuts x = Nets.of(TRIANGLE);
        for (int i = 0; i < 12; i++) {
            x.weigh(0, 20 + i);
        }
        due("undo: ten at most", x.count(6), 10);
        due("undo: 0", x.undo(0), -3);
        due("undo: below", x.undo(LOW), -3);
        due("undo: 11", x.undo(11), -3);
        due("undo: some", x.undo(3), 7);
        due("undo: as it was", x.weight(0), 28);
        due("undo: all", x.undo(7), 0);
        due("undo: the eldest are forgotten", x.weight(0), 21);
        x.turn(1, 0);
        x.warm(8);
        x.flip(0);
        x.fall();
        x.sides();
        due("undo: all sorts", x.undo(5), 0);
        due("undo: round", x.round(1, 0), 0);
        due("undo: warmth", x.count(2), 3);
        due("undo: sides", x.count(3), 0);
        due("undo: more than can be", x.undo(1), -3);
    }

    private static void judgeAndPerform() {
        FaceCuts x = Nets.of(TWISTED);
        due("judge: missing", x.judge(1, 0), -6);
        due("judge: no tray", x.judge(4, 0), -2);
        due("judge: no tray", x.judge(-1, 0), -2);
        due("judge: what ahead of missing", x.judge(1, 4), -2);
        due("perform: missing", x.perform(3), -6);
        due("perform: no tray", x.perform(4), -2);
        x.numbers(0, 0, 0);
        due("judge: nothing", x.judge(0, 0), -1);
        due("judge: nothing", x.judge(0, 1), 0);
        due("judge: nothing", x.judge(0, 2), 10000);
        due("judge: nothing", x.judge(0, 3), 1);
        due("perform: nothing", x.perform(0), 0);
        due("perform: nothing to undo", x.count(6), 0);
        Nets.tray(x, 0, 0, 101, 2000, 19, 20, 1);
        due("judge: where", x.judge(0, 0), 4);
        due("judge: why", x.judge(0, 1), 1);
        due("judge: worth then", x.judge(0, 2), 10000 + 10 + 2 + 3);
        due("judge: twists then", x.judge(0, 3), 0);
        due("judge changes nothing", x.count(3), 0);
        due("judge changes nothing", x.twists(), 1);
        due("judge changes nothing", x.weight(1), -4);
        due("perform", x.perform(0), 4);
        due("perform: sides", x.count(3), 1);
        due("perform: turned", x.twists(), 0);
        due("perform: weighed", x.weight(1), -99);
        due("perform: warmth", x.count(2), 9);
        due("perform: undone as a whole", x.undo(1), 0);
        due("perform: undone", x.count(2), 2);
        due("perform: undone", x.twists(), 1);
        Nets.tray(x, 0, 4);
        due("perform: the first can't be", x.perform(0), 0);
        due("perform: no deed, nothing to undo", x.count(6), 0);
    }

    private static void deed(long v, int done) {
        FaceCuts x = Nets.of(TWISTED);
        Nets.tray(x, 2, v);
        due("deed " + v, x.perform(2), done);
        due("why not " + v, x.judge(2, 1), 1 - done);
    }

    private static void deeds() {
        deed(-1, 0);
        deed(3, 1);
        deed(4, 0);
        deed(9, 0);
        deed(10, 1);
        deed(19, 1);
        deed(20, 0);
        deed(99, 0);
        deed(100, 1);
        deed(101, 1);
        deed(102, 0);
        deed(115, 0);
        deed(116, 1);
        deed(117, 0);
        deed(164, 0);
        deed(259, 0);
        deed(260, 0);
        deed(999, 0);
        deed(1000, 1);
        deed(1198, 1);
        deed(1199, 0);
        deed(1999, 0);
        deed(5198, 1);
        deed(6000, 0);
        deed(17000, 0);
        deed(17198, 0);
        deed(Long.MAX_VALUE, 0);
        deed(Long.MIN_VALUE, 0);
        deed(1L << 32, 0);
    }

    private static void day() {
        FaceCuts x = Nets.of(TRIANGLE);
        due("day: times", x.day(1, 0), -3);
        due("day: times", x.day(1, 41), -3);
        due("day: times", x.day(1, LOW), -3);
        FaceCuts y = Nets.of(TRIANGLE);
        int seed = -77;
        int done = 0;
        for (int i = 0; i < 40; i++) {
            seed = 1103515245 * seed + 12345;
            int sort = (seed >>> 16) % 6;
            seed = 1103515245 * seed + 12345;
            int a = seed >>> 16;
            int v = sort < 2 ? a % 10 : sort == 2 ? 10 + a % 10 : 100 + a % 160;
            if (sort > 3) {
                seed = 1103515245 * seed + 12345;
                v = 1000 + 1000 * (a % 16) + (seed >>> 16) % 199;
            }
            Nets.tray(y, 0, v);
            done += y.perform(0);
        }
        due("day", x.day(-77, 40), done);
        due("day: as in trays", x.count(3) * 10 + x.count(2), y.count(3) * 10 + y.count(2));
        for (int l = 0; l < 3; l++) {
            due("day: as in trays", x.weight(l), y.weight(l));
        }
        due("day: undone as a whole", x.undo(1), 0);
        due("day: undone", x.weight(0), 5);
        int none = 0;
        FaceCuts z = new FaceCuts();
        for (int s = 0; s < 20; s++) {
            none += z.day(s * 65537, 1);
        }
        due("day: what did nothing can't be undone", z.count(6), Math.min(10, none));
    }

    private static void faces() {
        FaceCuts x = Nets.of("net warm 0;node;node;node;node;link 0 1 gains 1;link 1 2 gains 1;link 2 0 gains 1;link 0 3 gains 1;round 0 0 2 3;");
        due("faces", x.faces(), 2);
        due("face: darts", x.face(0, 0), 5);
        due("face: darts", x.face(1, 0), 3);
        due("face: least", x.face(1, 1), 1);
        due("face: odd", x.face(1, 2), 1);
        due("face: a link met twice", x.face(0, 2), 1);
        due("face: nodes", x.face(0, 3), 4);
        due("face: nodes", x.face(1, 3), 3);
        due("face: none", x.face(2, 0), -2);
        due("face: none", x.face(-1, 0), -2);
        due("face: what", x.face(0, 4), -2);
        due("face: what", x.face(0, -1), -2);
        due("dart: the first", x.dart(1, 0), 1);
        due("dart: along the face", x.dart(1, 1), 5);
        due("dart", x.dart(0, 4), 7);
        due("dart: not so many", x.dart(0, 5), -1);
        due("dart: not so many", x.dart(1, HIGH), -1);
        due("dart: no face", x.dart(2, -1), -2);
        due("dart: below 0", x.dart(1, LOW), -3);
    }

    private static void partsTwistsOdd() {
        FaceCuts x = Nets.of("net warm 0;node;node;node;node;node;link 3 1 gains 1;");
        due("parts", x.parts(), 4);
        due("twists: bare nodes", x.twists(), 0);
        due("odd", x.odd(), 0);
        due("twists", Nets.of(TWISTED).twists(), 1);
        due("odd: by weights above 0", Nets.of(Nets.ring(1, 0, -1, 1)).odd(), 0b1010);
        String dense = "net warm 0;node;node;" + "link 0 1 gains 1;".repeat(16);
        due("twists: many", Nets.of(dense).twists(), 7);
        due("faces of these", Nets.of(dense).faces(), 2);
        due("odd: 0", Nets.of(dense).odd(), 0);
        due("odd where it isn't flat", Nets.of(TWISTED).odd(), 0);
    }

    private static void ways() {
        FaceCuts x = Nets.of(Nets.ring(3, -1, 2, 0));
        // Face f lies between the links f and f - 1, face 0 between 0 and 3: 3 either way round.
        due("far", x.far(0, 1), 3);
        due("across: the fewest links", x.across(0, 1, 0), 0);
        due("across: the fewest links", x.across(0, 1, 1), -1);
        due("far by two", x.far(1, 3), 3);
        due("across by two", x.across(1, 3, 0), 0);
        due("across by two", x.across(1, 3, 1), 3);
        due("across back", x.across(3, 1, 0), 2);
        due("far: itself", x.far(2, 2), 0);
        due("across: itself", x.across(2, 2, 0), -1);
        due("far: no face", x.far(0, 4), -2);
        due("far: no face", x.far(-1, 0), -2);
        due("across: no face", x.across(0, 4, -1), -2);
        due("across: below 0", x.across(0, 1, -1), -3);
        due("across: not so many", x.across(0, 1, HIGH), -1);
        x = Nets.of(Nets.ring(1, 1, 1, 1));
        due("across: of like ones the least first", x.across(0, 2, 0), 0);
        due("across: then on", x.across(0, 2, 1), 1);
        due("across: back another way", x.across(2, 0, 0), 1);
        FaceCuts two = Nets.of("net warm 0;node;node;node;node;link 0 1 gains 1;link 2 3 gains 1;");
        due("far: no way", two.far(0, 1), -1);
        due("across: no way", two.across(0, 1, 0), -1);
        due("across: no way, below 0", two.across(0, 1, -1), -3);
        FaceCuts twice = Nets.of(Nets.ring(5, 5, 5));
        due("across: the least of links side by side", Nets.of(Nets.ring(5, 5)).across(0, 1, 0), 0);
        due("far where three meet", twice.far(0, 2), 5);
        due("far where it isn't flat", Nets.of(TWISTED).far(0, 0), 0);
    }

    private static void pairing() {
        FaceCuts x = Nets.of(TRIANGLE);
        due("partner", x.partner(0), 1);
        due("partner: none such", x.partner(2), -2);
        due("partner: none such", x.partner(-1), -2);
        due("join", x.join(), 2);
        due("proof", x.proof(0), 12);
        due("proof", x.proof(1), 3);
        due("proof: what", x.proof(2), -2);
        due("proof: what", x.proof(-1), -2);
        x = Nets.of(TWISTED);
        due("partner: not flat", x.partner(0), -5);
        due("partner: none such, not flat", x.partner(1), -2);
        due("join: not flat", x.join(), -5);
        due("proof: not flat", x.proof(1), -5);
        due("proof: what, not flat", x.proof(2), -2);
        x = Nets.of(Nets.ring(1, 1, 1, 1));
        due("partner: not odd", x.partner(0), -1);
        due("join: none", x.join(), 0);
        // Four odd faces in a ring of four: both pairings weigh 2, the first face takes the lesser partner.
        x = Nets.of(Nets.ring(1, -1, 1, -1));
        due("all odd", x.odd(), 15);
        due("partner: the least of like ones", x.partner(0), 1);
        due("partner: then on", x.partner(2), 3);
    }

    private static void sixteenOdd() {
        int[] gains = new int[16];
        for (int i = 0; i < 16; i++) {
            gains[i] = i % 2 == 0 ? 99 : -98;
        }
        FaceCuts x = Nets.of(Nets.ring(gains));
        due("sixteen odd faces", x.odd(), 65535);
        due("sixteen: greatest", x.greatest(0), 8);
        due("sixteen: all", x.all(0), 8);
        due("sixteen: proof", x.proof(1), 8 * 98);
        due("sixteen: the join is what loses", x.join(), 0xAAAA);
        due("sixteen: least", x.least(0), 0);
        due("sixteen: cut", x.greatest(1), 65535);
        x.weigh(0, 0);
        due("sixteen: fourteen odd then", Integer.bitCount(x.odd()), 14);
        due("sixteen: greatest then", x.greatest(0), 0);
        due("sixteen: least then", x.least(0), -91);
        due("sixteen: all then", x.all(1), -91);
    }

    private static void cuts() {
        FaceCuts x = Nets.of(TRIANGLE);
        due("greatest", x.greatest(0), 9);
        due("greatest: links", x.greatest(1), 5);
        due("greatest: nodes", x.greatest(2), 6);
        due("greatest: what", x.greatest(3), OFF - 2);
        due("greatest: what", x.greatest(-1), OFF - 2);
        due("least", x.least(0), 0);
        x.weigh(0, -5);
        x.weigh(1, -3);
        due("least: by weights as they are", x.least(0), -8);
        due("least: links", x.least(1), 3);
        due("least: nodes", x.least(2), 2);
        due("least: what", x.least(3), OFF - 2);
        x = Nets.of(TWISTED);
        due("greatest: not flat", x.greatest(0), OFF - 5);
        due("least: not flat", x.least(2), OFF - 5);
        due("least: what, not flat", x.least(3), OFF - 2);
        x = Nets.of("net warm 0;node;node;node;node;link 3 1 gains 2;link 0 2 gains 0;");
        due("greatest: links that weigh nothing aren't good", x.greatest(1), 1);
        due("greatest: the least node of each part on 0", x.greatest(2), 8);
    }

    private static void worthAndGain() {
        FaceCuts x = Nets.of(TRIANGLE);
        due("worth", x.worth(), 0);
        due("gain", x.gain(0), 9);
        x.flip(0);
        due("worth then", x.worth(), 9);
        due("gain: back", x.gain(0), -9);
        due("gain: one cut, one not", x.gain(1), -2);
        due("gain: none", x.gain(3), OFF - 2);
        due("gain: none", x.gain(-1), OFF - 2);
        x.weigh(0, -99);
        due("worth below 0", x.worth(), -95);
    }

    private static void allCuts() {
        FaceCuts x = Nets.of(TRIANGLE);
        due("all: greatest", x.all(0), 9);
        due("all: least", x.all(1), 0);
        due("all: what", x.all(2), OFF - 2);
        due("all: what", x.all(-1), OFF - 2);
        due("best", x.best(), 2);
        due("stuck", x.stuck(), 2);
        due("steps", x.steps(), 1);
        due("climb", x.climb(), 1);
        due("longest", x.longest(), 3);
        x.flip(0);
        due("steps at one", x.steps(), 0);
        due("climb at one", x.climb(), 0);
        due("longest at one", x.longest(), 0);
        x = Nets.of("net warm 0;node;node;node;link 0 1 loses 1;link 1 2 loses 1;link 0 2 loses 1;");
        x.flip(0);
        due("climb: down to one side", x.climb(), 1);
        due("steps", x.steps(), 1);
        // Two pairs bound fast by losing links, that gain only between the pairs: a pair must cross one by one.
        x = Nets.of("net warm 0;node;node;node;node;link 0 1 loses 9;link 2 3 loses 9;link 0 2 gains 2;link 1 3 gains 2;");
        due("all: both pairs apart", x.all(0), 4);
        due("stuck: one side for all, too", x.stuck(), 4);
        due("steps: two", x.steps(), 2);
        due("climb: not without loss", x.climb(), -1);
        due("longest: none gains", x.longest(), 0);
        x = Nets.of("net warm 0;node;node;node;");
        due("best: all sets", x.best(), 8);
        due("stuck: all sets", x.stuck(), 8);
    }

    private static void weighed() {
        FaceCuts x = Nets.of("net warm 0;node;node;link 0 1 gains 5;link 0 1 gains 7;"
            + "weighs:if link=0 then if warm<5 then 1 else 2 end else warm end;");
        due("warms: missing", x.warms(0), -6);
        due("ask: missing", x.ask(0), -6);
        due("warms: no tray", x.warms(4), -2);
        due("ask: no tray", x.ask(-1), -2);
        x.numbers(0, 3, 0);
        due("warms: no numbers", x.warms(0), -4);
        x.numbers(0, 3, 9);
        due("warms: nine, ahead of -3", x.warms(0), -4);
        due("ask: nine", x.ask(0), -4);
        Nets.tray(x, 0, 101);
        due("warms", x.warms(0), 31);
        due("ask: the link that tells more", x.ask(0), 1);
        Nets.tray(x, 0, 102, 102, 102, 102, 102, 102, 102, 1107);
        due("warms: eight", x.warms(0), 128);
        due("ask: of like ones the first", x.ask(0), 0);
        Nets.tray(x, 0, 103);
        due("warms: none", x.warms(0), 0);
        due("ask: none", x.ask(0), -1);
        long[] wrong = {0, 100 - 100, 200, 999, -1, 2101, 1000, 1200, Long.MIN_VALUE, Long.MAX_VALUE, (1L << 32) + 101};
        for (long v : wrong) {
            Nets.tray(x, 0, 101, v);
            due("warms of " + v, x.warms(0), -3);
            due("ask of " + v, x.ask(0), -3);
        }
        Nets.tray(x, 0, 1, 199);
        due("warms: the bounds", x.warms(0), 0);
        x = Nets.of("net warm 0;node;node;link 0 1 gains 99;link 0 1 loses 99;link 0 1 gains 99;");
        Nets.tray(x, 0, 199, 1001);
        due("warms: all, by the most and the least weight", x.warms(0), 1023);
        due("ask: all alike", x.ask(0), 0);
        x = Nets.of("net warm 0;node;node;link 0 1 gains 99;link 0 1 gains 99;weighs:if link=0 or warm<8 then 99 else 98 end;");
        Nets.tray(x, 0, 199);
        due("ask: by the most weights", x.ask(0), 1);
    }

    private static void chances() {
        FaceCuts x = Nets.of(TRIANGLE);
        due("chance: above", x.chance(8, 1, 0), 1);
        due("chance: below", x.chance(8, 1, 1), 5);
        due("chance: 0 in lowest terms", x.chance(10, 4, 1), 1);
        due("chance: no lots", x.chance(0, 0, 0), 1);
        due("chance: no lots", x.chance(1, 0, 0), 0);
        due("chance: sure", x.chance(-9999, 4, 1), 1);
        due("chance: the greatest k", x.chance(9999, 0, 0), 0);
        due("chance: k", x.chance(10000, 0, 0), -3);
        due("chance: k", x.chance(-10000, 0, 0), -3);
        due("chance: n", x.chance(0, 5, 0), -3);
        due("chance: n", x.chance(0, -1, 0), -3);
        due("chance: what first", x.chance(10000, 5, 2), -2);
        due("chance: what", x.chance(0, 0, -1), -2);
        // Two lots: 7 of 10 do nothing; 9 comes by node 0 once, or by nodes 1 and 2.
        due("chance of two", x.chance(9, 2, 0), 4);
        due("chance of two", x.chance(9, 2, 1), 25);
        due("mean", x.mean(1, 0), 12);
        due("mean", x.mean(1, 1), 5);
        due("mean of none", x.mean(0, 0), 0);
        due("mean of none", x.mean(0, 1), 1);
        due("mean: n", x.mean(5, 0), OFF - 3);
        due("mean: n", x.mean(-1, 0), OFF - 3);
        due("mean: what first", x.mean(5, 2), OFF - 2);
        x.weigh(0, -99);
        due("mean below 0", x.mean(1, 0), -92);
        due("mean below 0, below", x.mean(1, 1), 5);
        FaceCuts ten = Nets.of("net warm 0;" + "node;".repeat(10) + "link 0 9 gains 1;");
        due("ten nodes, one lot", ten.chance(1, 1, 1), 5);
        // An odd number of four lots falls on node 0 or 9: half of 1 less (3 by 5) four times multiplied.
        due("ten nodes, four lots", ten.chance(1, 4, 0), 272);
        due("ten nodes, four lots", ten.chance(1, 4, 1), 625);
    }

    private static void trays() {
        FaceCuts x = Nets.of(TRIANGLE);
        due("write: missing", x.write(0, 0, 1), -6);
        due("write: no tray", x.write(4, 0, 1), -2);
        due("write: no tray", x.write(-1, 0, 1), -2);
        due("numbers: no tray", x.numbers(4, 0, 1), -2);
        due("numbers: no sort", x.numbers(0, 4, 1), -2);
        due("numbers: no sort", x.numbers(0, -1, 41), -2);
        due("numbers: too many", x.numbers(0, 0, 41), -3);
        due("numbers: below 0", x.numbers(0, 0, -1), -3);
        due("numbers: still missing", x.write(0, 0, 1), -6);
        due("numbers", x.numbers(0, 0, 40), 0);
        due("write: the last", x.write(0, 39, 7), 7);
        due("write: behind", x.write(0, 40, 7), -7);
        due("write: ahead", x.write(0, -1, 7), -7);
        due("write: 8 bits", x.write(0, 0, 127), 127);
        due("write: 8 bits", x.write(0, 0, 128), -128);
        due("write: 8 bits", x.write(0, 0, 256 + 5), 5);
        due("numbers: the tray stays", x.numbers(0, 3, 41), -3);
        due("numbers: as it was", x.write(0, 39, 300), 44);
        x.numbers(0, 1, 1);
        due("write: 16 bits", x.write(0, 0, 32768), -32768);
        x.numbers(0, 2, 1);
        due("write: 32 bits", x.write(0, 0, 1L << 31), -(1L << 31));
        x.numbers(0, 3, 1);
        due("write: 64 bits", x.write(0, 0, Long.MIN_VALUE), Long.MIN_VALUE);
        x.numbers(0, 2, 1);
        due("numbers: all 0, so node 0 is flipped", x.perform(0) * 10 + x.count(3), 11);
        due("lists: no face ahead of missing", x.lists(1, 2), -2);
        due("lists: no tray", x.lists(4, 0), -2);
        due("lists: missing", x.lists(1, 0), -6);
        x.numbers(1, 0, 2);
        due("lists: as far as there are places", x.lists(1, 1), 2);
        due("lists: 1 and 5, of which node 5 isn't", x.judge(1, 0), 1);
        x.numbers(1, 0, 4);
        due("lists: what there is", x.lists(1, 0), 3);
        x.numbers(1, 0, 0);
        due("lists: no places", x.lists(1, 0), 0);
    }

    private static void images() {
        FaceCuts x = Nets.of(TRIANGLE);
        due("restore: none was made", x.restore(0), -5);
        due("restore: no image", x.restore(2), -2);
        due("image: no image", x.image(2), -2);
        due("image: no image", x.image(-1), -2);
        x.flip(2);
        x.weigh(1, 30);
        x.turn(0, 0);
        x.warm(7);
        due("image", x.image(1), 0);
        due("image: what could be undone still can", x.count(6), 4);
        due("restore: the other one", x.restore(0), -5);
        due("another net", Nets.read(x, "net warm 1;node;node;link 0 1 gains 1;weighs:9;counts:1=2;"), 6);
        x.numbers(0, 0, 1);
        x.write(0, 0, 5);
        Nets.feed(x, "net");
        due("restore", x.restore(1), 0);
        due("restore: nodes", x.count(0), 3);
        due("restore: lines", x.count(8), 7);
        due("restore: warmth", x.count(2), 7);
        due("restore: sides", x.count(3), 4);
        due("restore: weights", x.weight(1), 30);
        due("restore: laws", x.weight(0), 5);
        due("restore: round", x.round(0, 0), 2);
        due("restore: nothing can be undone", x.undo(1), -3);
        due("restore: the tape stays", x.count(7), 20);
        due("restore: trays stay", x.judge(0, 0), 0);
        x.flip(0);
        x.weigh(1, 1);
        due("restore again", x.restore(1), 0);
        due("restore again", x.weight(1), 30);
        due("restore again", x.count(3), 4);
        x.image(0);
        x.net(20);
        due("images: apart", Nets.read(x, TRIANGLE), 7);
        x.image(0);
        x.restore(1);
        due("images: apart", x.count(2), 7);
        x.restore(0);
        due("images: apart", x.count(2), 3);
    }

    private static void count() {
        FaceCuts x = Nets.of(TRIANGLE);
        x.flip(1);
        x.weigh(1, -3);
        Nets.feed(x, "a");
        int[] want = {3, 3, 3, 2, 5, 3, 2, 20, 7, -1};
        for (int what = 0; what < want.length; what++) {
            due("count " + what, x.count(what), want[what]);
        }
        due("count: below", x.count(-1), -1);
        due("count: far off", x.count(LOW), -1);
    }
}
