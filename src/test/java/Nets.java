import java.util.Arrays;

/** Helps the tests: feeds texts given as a String and counts answers that aren't as due. */
final class Nets {
    static final String TRIANGLE =
        "net warm 3; node; node; node; link 0 1 gains 5; link 1 2 gains 3; link 2 0 gains 4;";
    /** Links 3 and 4 cross round node 0: not flat. */
    static final String TWISTED =
        "net warm 2; node; node; node; node; link 0 1 gains 10; link 1 2 loses 4; link 2 3 gains 7; link 3 0 gains 2; link 0 2 gains 3;";
    /**
     * Ten nodes and sixteen links, flat: node 0 is the hub, links 0 to 7 go from it to nodes 1 to 8, links 8 to 15 round
     * these; node 9 has no links. Face 0 lies between links 0 and 7, face f up to 7 between f - 1 and f, face 8 outside.
     */
    static final String WHEEL = wheel();
    static final String TEN_NODES = "net warm 0;" + "node;".repeat(10);
    /** They lie round both nodes in the same order, so that they twist as much as they can. */
    static final String SIXTEEN_LINKS = "net warm 0;node;node;" + "link 0 1 gains 1;".repeat(16);

    private static int wrong = 0;
    private static int asked = 0;

    private Nets() {
    }

    private static String wheel() {
        StringBuilder s = new StringBuilder("net warm 0;" + "node;".repeat(10));
        for (int v = 1; v <= 8; v++) {
            s.append("link 0 ").append(v).append(" gains 1;");
        }
        for (int v = 1; v <= 8; v++) {
            s.append("link ").append(v).append(' ').append(v % 8 + 1).append(" gains 1;");
        }
        return s.append("round 1 0 15 8;").toString();
    }

    /** Two nodes, and links that gain (lose, below 0) so much, so that each face lies between two links in a row. */
    static String ring(int... gains) {
        StringBuilder s = new StringBuilder("net warm 0;node;node;");
        for (int g : gains) {
            s.append("link 0 1 ").append(g < 0 ? "loses " : "gains ").append(Math.abs(g)).append(';');
        }
        s.append("round 1");
        for (int l = gains.length - 1; l >= 0; l--) {
            s.append(' ').append(l);
        }
        return s.append(';').toString();
    }

    /** Sixteen links that all gain (lose) so much, and as many faces. */
    static String ringOfSixteen(int gains) {
        int[] all = new int[16];
        Arrays.fill(all, gains);
        return ring(all);
    }

    /** The ints that put a text onto the tape, five a call, blanks behind it. */
    static int[] words(String text) {
        int calls = (text.length() + 19) / 20;
        int[] words = new int[calls * 5];
        for (int i = 0; i < calls * 20; i++) {
            int c = i < text.length() ? text.charAt(i) & 255 : 32;
            words[i / 4] = words[i / 4] << 8 | c;
        }
        return words;
    }

    static int feed(FaceCuts cuts, String text) {
        int[] w = words(text);
        int size = cuts.count(7);
        for (int i = 0; i < w.length; i += 5) {
            size = cuts.feed(w[i], w[i + 1], w[i + 2], w[i + 3], w[i + 4]);
        }
        return size;
    }

    static int read(FaceCuts cuts, String text) {
        feed(cuts, text);
        return cuts.net(text.length());
    }

    /** An object whose net is told by a text without a fault. */
    static FaceCuts of(String text) {
        FaceCuts cuts = new FaceCuts();
        int lines = read(cuts, text);
        if (lines < 1) {
            due("the net " + text, lines, 1);
        }
        return cuts;
    }

    static void tray(FaceCuts cuts, int tray, long... values) {
        cuts.numbers(tray, 3, values.length);
        for (int i = 0; i < values.length; i++) {
            cuts.write(tray, i, values[i]);
        }
    }

    static void due(String what, long got, long want) {
        asked++;
        if (got != want) {
            wrong++;
            System.out.println(what + " answered " + got + ", due is " + want);
        }
    }

    static void end() {
        System.out.println(asked + " answers, " + wrong + " not as due");
        if (wrong != 0 || asked == 0) {
            System.exit(1);
        }
    }
}
