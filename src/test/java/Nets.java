/** Helps the tests: feeds texts given as a String and counts answers that aren't as due. */
final class Nets {
    private static int wrong = 0;
    private static int asked = 0;

    private Nets() {
    }

    /** The ints that put a text onto the tape, five a call, blanks behind it. */
    static int[] words(String text) {
        int calls = (text.length() + 19) / 20;
        int[] words = new int[calls * 5];
        for (int i = 0; i < calls * 20; i++) {
            int c = i < text.length() ? text.charAt(i) & 255 : 32;
            words[i / 4] = words[i / 4] << 8 | c;
        }
        return words;
    }

    static int feed(FaceCuts cuts, String text) {
        int[] w = words(text);
        int size = cuts.count(7);
        for (int i = 0; i < w.length; i += 5) {
            size = cuts.feed(w[i], w[i + 1], w[i + 2], w[i + 3], w[i + 4]);
        }
        return size;
    }

    static int read(FaceCuts cuts, String text) {
        feed(cuts, text);
        return cuts.net(text.length());
    }

    /** An object whose net is told by a text without a fault. */
    static FaceCuts of(String text) {
        FaceCuts cuts = new FaceCuts();
        int lines = read(cuts, text);
        if (lines < 1) {
            due("the net " + text, lines, 1);
        }
        return cuts;
    }

    static void tray(FaceCuts cuts, int tray, long... values) {
        cuts.numbers(tray, 3, values.length);
        for (int i = 0; i < values.length; i++) {
            cuts.write(tray, i, values[i]);
        }
    }

    static void due(String what, long got, long want) {
        asked++;
        if (got != want) {
            wrong++;
            System.out.println(what + " answered " + got + ", due is " + want);
        }
    }

    static void end() {
        System.out.println(asked + " answers, " + wrong + " not as due");
        if (wrong != 0 || asked == 0) {
            System.exit(1);
        }
    }
}
