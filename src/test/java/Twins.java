/**
 * Two objects with the same calls behind them, of which one has one call more that must change nothing: both are then
 * looked at in every way there is (what can be undone by undoing, what is on the tape by reading it, images by
 * restoring them, trays by writing into them).
 */
final class Twins {
    /* An object answers for 512 calls; what is called ahead and the call itself come on top of these. */
    private static final int MOST_SEEN = 400;

    interface Calls {
        void on(FaceCuts x);
    }

    interface Call {
        long on(FaceCuts x);
    }

    private final FaceCuts x;
    private final StringBuilder seen = new StringBuilder();
    private int calls;

    private Twins(FaceCuts x) {
        this.x = x;
    }

    /** The call answers so, and all is as it was. */
    static void unchanged(String sentence, Calls ahead, Call call, long want) {
        FaceCuts one = called(ahead);
        Heads.due(sentence, call.on(one), want);
        Heads.same(sentence + ": changes nothing", all(one), all(called(ahead)));
    }

    /** As unchanged(), but for the tape, which is empty then, and what fault() tells. */
    static void faulty(String sentence, Calls ahead, Call call, long want) {
        FaceCuts one = called(ahead);
        Heads.due(sentence, call.on(one), want);
        Heads.due(sentence + ": the tape is empty", one.count(7), 0);
        Heads.same(sentence + ": all else stays", allButTape(one), allButTape(called(ahead)));
    }

    private static FaceCuts called(Calls ahead) {
        FaceCuts x = new FaceCuts();
        ahead.on(x);
        return x;
    }

    /** Two images, three trays and a missing one, ten calls that can be undone, a text on the tape; the net is flat. */
    static void rich(FaceCuts x) {
        Nets.read(x, "net warm 2;node;node;link 1 0 loses 9;weighs:told*warm;");
        x.flip(1);
        x.image(1);
        Nets.read(x, Nets.TRIANGLE);
        x.image(0);
        fill(x);
        x.flip(2);
        x.weigh(0, 17);
        x.warm(6);
        x.turn(1, 0);
        x.flip(0);
        x.weigh(2, -8);
        x.fall();
        x.sides();
        x.turn(2, 0);
        x.warm(5);
        x.flip(1);
    }

    /** As rich(), but the net isn't flat and less can be undone. */
    static void twisted(FaceCuts x) {
        Nets.read(x, "net warm 2;node;node;link 1 0 loses 9;weighs:told*warm;");
        x.image(1);
        Nets.read(x, Nets.TWISTED);
        fill(x);
        x.flip(3);
        x.weigh(4, 11);
    }

    private static void fill(FaceCuts x) {
        x.numbers(0, 0, 3);
        x.write(0, 0, 1);
        x.write(0, 1, 13);
        x.write(0, 2, 99);
        x.numbers(1, 1, 2);
        x.write(1, 0, 1103);
        x.write(1, 1, 117);
        x.numbers(2, 3, 40);
        x.write(2, 38, 1000);
        x.write(2, 39, -1);
        Nets.feed(x, "net warm 8;node;");
    }

    private static String all(FaceCuts x) {
        Twins t = new Twins(x);
        t.seeNet();
        t.see(x.fault(0));
        t.see(x.fault(1));
        t.see(x.count(7));
        t.seeTrays();
        t.seePast();
        t.see(x.net(x.count(7)));
        t.seeNet();
        t.seeImages();
        return t.told();
    }

    private static String allButTape(FaceCuts x) {
        Twins t = new Twins(x);
        t.seeNet();
        t.seeTrays();
        t.seePast();
        t.seeImages();
        return t.told();
    }

    private String told() {
        Heads.due("looked at by so many calls as are promised", calls <= MOST_SEEN ? 1 : 0, 1);
        return seen.toString();
    }

    private void see(long answer) {
        seen.append(answer).append(' ');
        calls++;
    }

    private void seeNet() {
        for (int what = 0; what < 9; what++) {
            if (what != 7) {
                see(x.count(what));
            }
        }
        for (int l = 0; l < x.count(1); l++) {
            see(x.link(l, 0));
            see(x.link(l, 1));
            see(x.link(l, 2));
        }
        seeDeeds();
    }

    /** What deeds change. */
    private void seeDeeds() {
        int nodes = x.count(0);
        int links = x.count(1);
        seen.append('/');
        see(x.count(2));
        see(x.count(3));
        for (int l = 0; l < links; l++) {
            see(x.weight(l));
        }
        for (int v = 0; v < nodes; v++) {
            int link = x.round(v, 0);
            for (int i = 0; link >= 0; i++) {
                see(link);
                link = x.round(v, i + 1);
            }
        }
    }

    private void seeTrays() {
        for (int t = 0; t < 4; t++) {
            for (int what = 0; what < 4; what++) {
                see(x.judge(t, what));
            }
            see(x.warms(t));
            see(x.ask(t));
            see(x.write(t, 0, 0x7edcba9876543210L));
            see(x.write(t, 2, 5));
            see(x.write(t, 3, 5));
            see(x.write(t, 39, 5));
        }
    }

    private void seePast() {
        while (x.undo(1) >= 0) {
            seeDeeds();
        }
        see(x.undo(1));
    }

    private void seeImages() {
        for (int i = 0; i < 2; i++) {
            see(x.restore(i));
            seeNet();
        }
    }
}
