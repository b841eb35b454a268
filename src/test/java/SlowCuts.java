import java.util.ArrayDeque;
import java.util.ArrayList;
import java.util.Arrays;
import java.util.Deque;
import java.util.HashMap;
import java.util.List;
import java.util.Map;

/**
 * The document once more, by other means than FaceCuts: a table of what may follow in place of recursive descent, laws
 * worked out on their tokens, all ways and all pairings gone through, all draws drawn. Slow, for the tests alone.
 */
final class SlowCuts {
    static final int B = -99000000;

    /** A net and all that deeds change, copied whole. */
    static final class Net {
        int nodes;
        int warm;
        int lines;
        int sides;
        List<int[]> links = new ArrayList<>();
        List<List<Integer>> told = new ArrayList<>();
        List<List<Integer>> rings = new ArrayList<>();
        List<String> weighs;
        List<String> counts;

        Net copy() {
            Net n = new Net();
            n.nodes = nodes;
            n.warm = warm;
            n.lines = lines;
            n.sides = sides;
            for (int[] l : links) {
                n.links.add(l.clone());
            }
            for (List<Integer> r : rings) {
                n.rings.add(new ArrayList<>(r));
            }
            n.weighs = weighs;
            n.counts = counts;
            return n;
        }
    }

    private Net net = new Net();
    private String tape = "";
    private int fault = 0;
    private int place = -1;
    private List<Net> past = new ArrayList<>();
    private final Net[] images = new Net[2];
    private final long[][] trays = new long[4][];
    private final int[] sorts = new int[4];

    // ---- reading

    private static final class Token {
        String text;
        int at;
        char kind;
    }

    private static List<Token> tokens(String s) {
        List<Token> list = new ArrayList<>();
        int i = 0;
        while (i < s.length()) {
            char c = s.charAt(i);
            if (c == 10 || c == 32) {
                i++;
                continue;
            }
            Token t = new Token();
            t.at = i;
            int j = i + 1;
            if (c >= 'a' && c <= 'z') {
                while (j < s.length() && s.charAt(j) >= 'a' && s.charAt(j) <= 'z') {
                    j++;
                }
                t.kind = 'w';
            } else if (c >= '0' && c <= '9') {
                while (j < s.length() && s.charAt(j) >= '0' && s.charAt(j) <= '9') {
                    j++;
                }
                t.kind = j - i > 3 ? '?' : 'n';
            } else {
                t.kind = ";:+-*()[]=<>".indexOf(c) >= 0 ? 's' : '?';
            }
            t.text = s.substring(i, j);
            list.add(t);
            i = j;
        }
        Token end = new Token();
        end.text = "";
        end.at = s.length();
        end.kind = '$';
        list.add(end);
        return list;
    }

    /** What the stack's top symbol becomes before a token; null: the token can't stand there. */
    private static String grow(String symbol, Token t) {
        boolean atom = t.kind == 'n' || Arrays.asList("(", "if", "told", "from", "to", "link", "warm").contains(t.text);
        switch (symbol) {
            case "LINES":
                if (t.kind == '$') {
                    return "";
                }
                return Arrays.asList("node", "link", "round", "weighs", "counts").contains(t.text) ? "LINE ; !line LINES" : null;
            case "LINE":
                switch (t.text) {
                    case "node":
                        return "node";
                    case "link":
                        return "link #from #to GL #much";
                    case "round":
                        return "round #node RING";
                    case "weighs":
                        return "weighs : !law SUM !weighs";
                    default:
                        return "counts : !law TRUTH !counts";
                }
            case "GL":
                return t.text.equals("gains") || t.text.equals("loses") ? t.text : null;
            case "RING":
                return t.kind == 'n' ? "#ring RING" : "";
            case "SUM":
                return atom ? "TERM SUMS" : null;
            case "SUMS":
                return t.text.equals("+") || t.text.equals("-") ? t.text + " TERM SUMS" : "";
            case "TERM":
                return atom ? "ATOM TERMS" : null;
            case "TERMS":
                return t.text.equals("*") ? "* ATOM TERMS" : "";
            case "ATOM":
                if (!atom) {
                    return null;
                }
                if (t.kind == 'n') {
                    return "#any";
                }
                if (t.text.equals("(")) {
                    return "!in ( SUM ) !out";
                }
                return t.text.equals("if") ? "!in if TRUTH then SUM else SUM end !out" : t.text;
            case "TRUTH":
                return "BOTH ORS";
            case "ORS":
                return t.text.equals("or") ? "or BOTH ORS" : "";
            case "BOTH":
                return "UNIT ANDS";
            case "ANDS":
                return t.text.equals("and") ? "and UNIT ANDS" : "";
            case "UNIT":
                if (t.text.equals("not")) {
                    return "!in not UNIT !out";
                }
                if (t.text.equals("[")) {
                    return "!in [ TRUTH ] !out";
                }
                return atom ? "SUM SIGN SUM" : null;
            case "SIGN":
                return Arrays.asList("=", "<", ">").contains(t.text) ? t.text : null;
            default:
                throw new IllegalStateException(symbol);
        }
    }

    private Net made;
    private int depth;
    private int lawStart;
    private int from;
    private int to;
    private int node;
    private String gl;

    private int readAll(String s) {
        List<Token> list = tokens(s);
        Deque<String> stack = new ArrayDeque<>();
        for (String x : "net warm #warm ; !line LINES END".split(" ")) {
            stack.addLast(x);
        }
        made = new Net();
        depth = 0;
        int i = 0;
        while (!stack.isEmpty()) {
            String top = stack.removeFirst();
            Token t = list.get(i);
            if (top.startsWith("!")) {
                int bad = mark(top, list, i);
                if (bad != 0) {
                    return say(bad, t);
                }
                continue;
            }
            if (t.kind == '?') {
                return say(1, t);
            }
            if (top.equals("END")) {
                return t.kind == '$' ? say(0, null) : say(2, t);
            }
            if (top.startsWith("#")) {
                if (t.kind != 'n') {
                    return say(2, t);
                }
                if (!fits(top, Integer.parseInt(t.text))) {
                    return say(3, t);
                }
                i++;
            } else if (top.matches("[A-Z]+")) {
                String more = grow(top, t);
                if (more == null) {
                    return say(2, t);
                }
                String[] parts = more.isEmpty() ? new String[0] : more.split(" ");
                for (int k = parts.length - 1; k >= 0; k--) {
                    stack.addFirst(parts[k]);
                }
            } else {
                if (!t.text.equals(top)) {
                    return say(2, t);
                }
                if (top.equals("node") && !stack.isEmpty() && ++made.nodes > 10) {
                    return say(4, t);
                }
                if (top.equals("node")) {
                    made.told.add(new ArrayList<>());
                }
                if (top.equals("link") && stack.peekFirst().equals("#from") && made.links.size() == 16) {
                    return say(4, t);
                }
                gl = top;
                i++;
            }
        }
        throw new IllegalStateException();
    }

    private int mark(String top, List<Token> list, int i) {
        switch (top) {
            case "!line":
                made.lines++;
                return 0;
            case "!in":
                return ++depth > 6 ? 4 : 0;
            case "!out":
                depth--;
                return 0;
            case "!law":
                lawStart = i;
                return 0;
            default:
                List<String> law = new ArrayList<>();
                for (int k = lawStart; k < i; k++) {
                    law.add(list.get(k).text);
                }
                if (top.equals("!weighs")) {
                    made.weighs = law;
                } else {
                    made.counts = law;
                }
                return 0;
        }
    }

    private boolean fits(String what, int n) {
        switch (what) {
            case "#warm":
                made.warm = n;
                return n <= 9;
            case "#from":
                from = n;
                return n < made.nodes;
            case "#to":
                to = n;
                return n < made.nodes && n != from;
            case "#much":
                made.links.add(new int[] {from, to, gl.equals("gains") ? n : -n});
                return n <= 99;
            case "#node":
                node = n;
                if (n >= made.nodes) {
                    return false;
                }
                made.told.get(n).clear();
                return true;
            case "#ring":
                if (n >= made.links.size() || made.told.get(node).contains(n)) {
                    return false;
                }
                made.told.get(node).add(n);
                return made.links.get(n)[0] == node || made.links.get(n)[1] == node;
            default:
                return true;
        }
    }

    private int say(int kind, Token t) {
        fault = kind;
        place = kind == 0 ? -1 : t.at;
        return kind;
    }

    private void lay() {
        for (int v = 0; v < made.nodes; v++) {
            List<Integer> ring = new ArrayList<>(made.told.get(v));
            for (int l = 0; l < made.links.size(); l++) {
                int[] x = made.links.get(l);
                if ((x[0] == v || x[1] == v) && !ring.contains(l)) {
                    ring.add(l);
                }
            }
            made.rings.add(ring);
        }
    }

    // ---- laws, by splitting their tokens at the last sign that isn't nested

    private static int lastOf(List<String> t, String... signs) {
        int deep = 0;
        for (int i = t.size() - 1; i >= 0; i--) {
            String x = t.get(i);
            if (x.equals(")") || x.equals("]") || x.equals("end")) {
                deep++;
            }
            if (deep == 0 && Arrays.asList(signs).contains(x)) {
                return i;
            }
            if (x.equals("(") || x.equals("[") || x.equals("if")) {
                deep--;
            }
        }
        return -1;
    }

    private static long keep(long v) {
        return v < -1000000 ? -1000000 : v > 1000000 ? 1000000 : v;
    }

    private static long sum(List<String> t, Map<String, Integer> facts) {
        int i = lastOf(t, "+", "-");
        if (i >= 0) {
            long a = sum(t.subList(0, i), facts);
            long b = sum(t.subList(i + 1, t.size()), facts);
            return keep(t.get(i).equals("+") ? a + b : a - b);
        }
        i = lastOf(t, "*");
        if (i >= 0) {
            return keep(sum(t.subList(0, i), facts) * sum(t.subList(i + 1, t.size()), facts));
        }
        String first = t.get(0);
        if (first.equals("(")) {
            return sum(t.subList(1, t.size() - 1), facts);
        }
        if (first.equals("if")) {
            List<String> in = t.subList(1, t.size() - 1);
            int e = lastOf(in, "else");
            int h = lastOf(in.subList(0, e), "then");
            return truth(in.subList(0, h), facts) ? sum(in.subList(h + 1, e), facts) : sum(in.subList(e + 1, in.size()), facts);
        }
        return facts.containsKey(first) ? facts.get(first) : Integer.parseInt(first);
    }

    private static boolean truth(List<String> t, Map<String, Integer> facts) {
        for (String word : new String[] {"or", "and"}) {
            int i = lastOf(t, word);
            if (i >= 0) {
                boolean a = truth(t.subList(0, i), facts);
                boolean b = truth(t.subList(i + 1, t.size()), facts);
                return word.equals("or") ? a || b : a && b;
            }
        }
        if (t.get(0).equals("not")) {
            return !truth(t.subList(1, t.size()), facts);
        }
        if (t.get(0).equals("[")) {
            return truth(t.subList(1, t.size() - 1), facts);
        }
        int i = lastOf(t, "=", "<", ">");
        long a = sum(t.subList(0, i), facts);
        long b = sum(t.subList(i + 1, t.size()), facts);
        return t.get(i).equals("=") ? a == b : t.get(i).equals("<") ? a < b : a > b;
    }

    private int w(int l, int warmth) {
        int[] x = net.links.get(l);
        Map<String, Integer> facts = new HashMap<>();
        facts.put("told", x[2]);
        facts.put("from", x[0]);
        facts.put("to", x[1]);
        facts.put("link", l);
        facts.put("warm", warmth);
        if (net.counts != null && !truth(net.counts, facts)) {
            return 0;
        }
        long v = net.weighs == null ? x[2] : sum(net.weighs, facts);
        return (int) Math.max(-99, Math.min(99, v));
    }

    private int[] ws() {
        int[] r = new int[net.links.size()];
        for (int l = 0; l < r.length; l++) {
            r[l] = w(l, net.warm);
        }
        return r;
    }

    // ---- the net

    int feed(int a, int b, int c, int d, int e) {
        if (tape.length() > 880) {
            return -5;
        }
        StringBuilder s = new StringBuilder(tape);
        for (int x : new int[] {a, b, c, d, e}) {
            s.append((char) (x >>> 24)).append((char) (x >>> 16 & 255)).append((char) (x >>> 8 & 255)).append((char) (x & 255));
        }
        tape = s.toString();
        return tape.length();
    }

    int net(int n) {
        if (n < 0 || n > tape.length()) {
            return -3;
        }
        String s = tape.substring(0, n);
        tape = "";
        int bad = readAll(s);
        if (bad != 0) {
            return -30 - bad;
        }
        lay();
        net = made;
        past.clear();
        return net.lines;
    }

    int fault(int what) {
        return what == 0 ? fault : what == 1 ? place : -1;
    }

    private boolean isLink(int l) {
        return l >= 0 && l < net.links.size();
    }

    private boolean isNode(int n) {
        return n >= 0 && n < net.nodes;
    }

    int link(int l, int what) {
        if (!isLink(l) || what < 0 || what > 3) {
            return -2;
        }
        return what < 2 ? net.links.get(l)[what] : faceWith(2 * l + what - 2);
    }

    int weight(int l) {
        return isLink(l) ? w(l, net.warm) : B - 2;
    }

    int round(int n, int at) {
        return !isNode(n) ? -2 : at < 0 ? -3 : at < net.rings.get(n).size() ? net.rings.get(n).get(at) : -1;
    }

    int next(int d) {
        if (d < 0 || d >= 2 * net.links.size()) {
            return -2;
        }
        int v = net.links.get(d / 2)[1 - d % 2];
        List<Integer> ring = net.rings.get(v);
        int l = ring.get((ring.indexOf(d / 2) + 1) % ring.size());
        return net.links.get(l)[0] == v ? 2 * l : 2 * l + 1;
    }

    // ---- deeds

    private void keepPast(Net n) {
        past.add(n);
        if (past.size() > 10) {
            past.remove(0);
        }
    }

    int weigh(int l, int n) {
        if (!isLink(l) || n < -99 || n > 99) {
            return B - 11;
        }
        keepPast(net.copy());
        int old = net.links.get(l)[2];
        net.links.get(l)[2] = n;
        return old;
    }

    int flip(int n) {
        if (!isNode(n)) {
            return B - 11;
        }
        keepPast(net.copy());
        net.sides ^= 1 << n;
        return worth();
    }

    private boolean turned(int n, int at) {
        if (!isNode(n) || at < 0 || at + 2 > net.rings.get(n).size()) {
            return false;
        }
        net.rings.get(n).add(at, net.rings.get(n).remove(at + 1));
        return true;
    }

    int turn(int n, int at) {
        if (at == Integer.MAX_VALUE) {
            return -11;
        }
        Net old = net.copy();
        if (!turned(n, at)) {
            return -11;
        }
        keepPast(old);
        return twists();
    }

    int warm(int n) {
        if (n < 0 || n > 9) {
            return -11;
        }
        keepPast(net.copy());
        int old = net.warm;
        net.warm = n;
        return old;
    }

    int fall() {
        keepPast(net.copy());
        while (true) {
            int best = -1;
            for (int v = 0; v < net.nodes; v++) {
                if (gain(v) > 0 && (best < 0 || gain(v) > gain(best))) {
                    best = v;
                }
            }
            if (best < 0) {
                return worth();
            }
            net.sides ^= 1 << best;
        }
    }

    int sides() {
        if (twists() != 0) {
            return -5;
        }
        int s = greatest(2);
        keepPast(net.copy());
        int flips = Integer.bitCount(s ^ net.sides);
        net.sides = s;
        return flips;
    }

    int undo(int n) {
        if (n < 1 || n > past.size()) {
            return -3;
        }
        for (int i = 0; i < n; i++) {
            net = past.remove(past.size() - 1);
        }
        return past.size();
    }

    private boolean deed(long v) {
        if (v >= 0 && v <= 9) {
            if (!isNode((int) v)) {
                return false;
            }
            net.sides ^= 1 << v;
            return true;
        }
        if (v >= 10 && v <= 19) {
            net.warm = (int) v - 10;
            return true;
        }
        if (v >= 100 && v <= 259) {
            return turned(((int) v - 100) / 16, ((int) v - 100) % 16);
        }
        if (v >= 1000 && v <= 17198) {
            int l = (int) (v - 1000) / 1000;
            int rest = (int) (v - 1000) % 1000;
            if (rest > 198 || !isLink(l)) {
                return false;
            }
            net.links.get(l)[2] = rest - 99;
            return true;
        }
        return false;
    }

    private static boolean isTray(int t) {
        return t >= 0 && t < 4;
    }

    int judge(int t, int what) {
        if (!isTray(t) || what < 0 || what > 3) {
            return -2;
        }
        if (trays[t] == null) {
            return -6;
        }
        Net old = net.copy();
        int i = 0;
        while (i < trays[t].length && deed(trays[t][i])) {
            i++;
        }
        boolean whole = i == trays[t].length;
        int[] answers = {whole ? -1 : i, whole ? 0 : 1, 10000 + worth(), twists()};
        net = old;
        return answers[what];
    }

    int perform(int t) {
        if (!isTray(t)) {
            return -2;
        }
        if (trays[t] == null) {
            return -6;
        }
        Net old = net.copy();
        int i = 0;
        while (i < trays[t].length && deed(trays[t][i])) {
            i++;
        }
        if (i > 0) {
            keepPast(old);
        }
        return i;
    }

    private int x;

    private int draw() {
        x = (int) (1103515245L * x + 12345);
        return x >>> 16;
    }

    int day(int seed, int times) {
        if (times < 1 || times > 40) {
            return -3;
        }
        Net old = net.copy();
        x = seed;
        int done = 0;
        for (int i = 0; i < times; i++) {
            int v;
            switch (draw() % 6) {
                case 0:
                case 1:
                    v = draw() % 10;
                    break;
                case 2:
                    v = 10 + draw() % 10;
                    break;
                case 3:
                    v = 100 + draw() % 160;
                    break;
                default:
                    v = 1000 + 1000 * (draw() % 16);
                    v += draw() % 199;
            }
            done += deed(v) ? 1 : 0;
        }
        if (done > 0) {
            keepPast(old);
        }
        return done;
    }

    // ---- faces

    private List<List<Integer>> allFaces() {
        List<List<Integer>> all = new ArrayList<>();
        boolean[] seen = new boolean[2 * net.links.size()];
        for (int d = 0; d < seen.length; d++) {
            List<Integer> f = new ArrayList<>();
            for (int e = d; !seen[e]; e = next(e)) {
                seen[e] = true;
                f.add(e);
            }
            if (!f.isEmpty()) {
                all.add(f);
            }
        }
        return all;
    }

    private int faceWith(int d) {
        List<List<Integer>> all = allFaces();
        for (int f = 0; f < all.size(); f++) {
            if (all.get(f).contains(d)) {
                return f;
            }
        }
        return -1;
    }

    int faces() {
        return allFaces().size();
    }

    private boolean isFace(int f) {
        return f >= 0 && f < faces();
    }

    int face(int f, int what) {
        if (!isFace(f) || what < 0 || what > 3) {
            return -2;
        }
        List<Integer> darts = allFaces().get(f);
        if (what == 0) {
            return darts.size();
        }
        if (what == 1) {
            return darts.get(0);
        }
        int good = 0;
        int met = 0;
        for (int d : darts) {
            good += w(d / 2, net.warm) > 0 ? 1 : 0;
            met |= 1 << net.links.get(d / 2)[0] | 1 << net.links.get(d / 2)[1];
        }
        return what == 2 ? good % 2 : Integer.bitCount(met);
    }

    int dart(int f, int i) {
        return !isFace(f) ? -2 : i < 0 ? -3 : i < allFaces().get(f).size() ? allFaces().get(f).get(i) : -1;
    }

    private int reach(int v) {
        int bits = 1 << v;
        for (int i = 0; i < 10; i++) {
            for (int[] l : net.links) {
                int both = 1 << l[0] | 1 << l[1];
                if ((bits & both) != 0) {
                    bits |= both;
                }
            }
        }
        return bits;
    }

    int parts() {
        int n = 0;
        for (int v = 0; v < net.nodes; v++) {
            n += Integer.numberOfTrailingZeros(reach(v)) == v ? 1 : 0;
        }
        return n;
    }

    int twists() {
        int bare = 0;
        for (List<Integer> r : net.rings) {
            bare += r.isEmpty() ? 1 : 0;
        }
        return (2 * parts() - net.nodes + net.links.size() - faces() - bare) / 2;
    }

    int odd() {
        int bits = 0;
        for (int f = 0; f < faces(); f++) {
            bits |= face(f, 2) << f;
        }
        return bits;
    }

    private List<Integer> bestWay;
    private int bestHeavy;
    private int[] weights;
    private int[] faceOf;

    private void prepare() {
        weights = ws();
        faceOf = new int[2 * weights.length];
        List<List<Integer>> all = allFaces();
        for (int f = 0; f < all.size(); f++) {
            for (int d : all.get(f)) {
                faceOf[d] = f;
            }
        }
    }

    private static int compare(List<Integer> a, int heavyA, List<Integer> b, int heavyB) {
        if (heavyA != heavyB) {
            return heavyA - heavyB;
        }
        if (a.size() != b.size()) {
            return a.size() - b.size();
        }
        for (int i = 0; i < a.size(); i++) {
            if (!a.get(i).equals(b.get(i))) {
                return a.get(i) - b.get(i);
            }
        }
        return 0;
    }

    private void allWays(int at, int g, int been, List<Integer> way, int heavy) {
        if (bestWay != null && compare(way, heavy, bestWay, bestHeavy) > 0 && heavy > bestHeavy) {
            return;
        }
        if (at == g) {
            if (bestWay == null || compare(way, heavy, bestWay, bestHeavy) < 0) {
                bestWay = new ArrayList<>(way);
                bestHeavy = heavy;
            }
            return;
        }
        for (int l = 0; l < weights.length; l++) {
            for (int s = 0; s < 2; s++) {
                int to = faceOf[2 * l + 1 - s];
                if (faceOf[2 * l + s] == at && (been >> to & 1) == 0) {
                    way.add(l);
                    allWays(to, g, been | 1 << to, way, heavy + Math.abs(weights[l]));
                    way.remove(way.size() - 1);
                }
            }
        }
    }

    private void findWay(int f, int g) {
        prepare();
        bestWay = null;
        allWays(f, g, 1 << f, new ArrayList<>(), 0);
    }

    int far(int f, int g) {
        if (!isFace(f) || !isFace(g)) {
            return -2;
        }
        findWay(f, g);
        return bestWay == null ? -1 : bestHeavy;
    }

    int across(int f, int g, int i) {
        if (!isFace(f) || !isFace(g)) {
            return -2;
        }
        if (i < 0) {
            return -3;
        }
        findWay(f, g);
        return bestWay == null || i >= bestWay.size() ? -1 : bestWay.get(i);
    }

    // ---- cuts

    private int[] bestPairs;
    private long bestCost;
    private long[][] costs;

    /** In the order that the document asks for among like ones: only a better one takes the place of an earlier one. */
    private void allPairs(int left, int[] partners, long cost) {
        if (left == 0) {
            if (bestPairs == null || cost < bestCost) {
                bestPairs = partners.clone();
                bestCost = cost;
            }
            return;
        }
        int f = Integer.numberOfTrailingZeros(left);
        for (int g = f + 1; g < 16; g++) {
            if ((left >> g & 1) != 0 && costs[f][g] >= 0) {
                partners[f] = g;
                partners[g] = f;
                allPairs(left & ~(1 << f | 1 << g), partners, cost + costs[f][g]);
            }
        }
    }

    private int oddBy(int sign) {
        int bits = 0;
        prepare();
        for (int d = 0; d < faceOf.length; d++) {
            if (weights[d / 2] * sign > 0) {
                bits ^= 1 << faceOf[d];
            }
        }
        return bits;
    }

    /** The join by weights, or by weights of the other sign; bestPairs has the pairs. */
    private int joinBy(int sign) {
        int odd = oddBy(sign);
        costs = new long[16][16];
        for (int f = 0; f < 16; f++) {
            for (int g = f + 1; g < 16; g++) {
                if ((odd >> f & 1) != 0 && (odd >> g & 1) != 0) {
                    findWay(f, g);
                    costs[f][g] = bestWay == null ? -1 : bestHeavy * 100000L + bestWay.size();
                }
            }
        }
        bestPairs = null;
        int[] none = new int[16];
        Arrays.fill(none, -1);
        allPairs(odd, none, 0);
        int join = 0;
        for (int f = 0; f < 16; f++) {
            if (bestPairs[f] > f) {
                findWay(f, bestPairs[f]);
                for (int l : bestWay) {
                    join ^= 1 << l;
                }
            }
        }
        return join;
    }

    int partner(int f) {
        if (!isFace(f)) {
            return -2;
        }
        if (twists() != 0) {
            return -5;
        }
        joinBy(1);
        return bestPairs[f];
    }

    int join() {
        return twists() != 0 ? -5 : joinBy(1);
    }

    int proof(int what) {
        if (what != 0 && what != 1) {
            return -2;
        }
        if (twists() != 0) {
            return -5;
        }
        int sum = 0;
        int join = joinBy(1);
        for (int l = 0; l < net.links.size(); l++) {
            int v = w(l, net.warm);
            sum += what == 0 ? Math.max(v, 0) : (join >> l & 1) * Math.abs(v);
        }
        return sum;
    }

    private int cut(int what, int sign) {
        if (what < 0 || what > 2) {
            return B - 2;
        }
        if (twists() != 0) {
            return B - 5;
        }
        int bits = joinBy(sign);
        int sum = 0;
        for (int l = 0; l < net.links.size(); l++) {
            if (w(l, net.warm) * sign > 0) {
                bits ^= 1 << l;
            }
            sum += (bits >> l & 1) * w(l, net.warm);
        }
        if (what < 2) {
            return what == 0 ? sum : bits;
        }
        for (int s = 0; s < 1 << net.nodes; s++) {
            boolean first = true;
            for (int v = 0; v < net.nodes; v++) {
                first &= Integer.numberOfTrailingZeros(reach(v)) != v || (s >> v & 1) == 0;
            }
            if (first && cutOf(s) == bits) {
                return s;
            }
        }
        throw new IllegalStateException("no cut");
    }

    int greatest(int what) {
        return cut(what, 1);
    }

    int least(int what) {
        return cut(what, -1);
    }

    private int cutOf(int s) {
        int bits = 0;
        for (int l = 0; l < net.links.size(); l++) {
            int[] x = net.links.get(l);
            if ((s >> x[0] & 1) != (s >> x[1] & 1)) {
                bits |= 1 << l;
            }
        }
        return bits;
    }

    private int worthOf(int s, int[] v) {
        int sum = 0;
        int bits = cutOf(s);
        for (int l = 0; l < v.length; l++) {
            sum += (bits >> l & 1) * v[l];
        }
        return sum;
    }

    int worth() {
        return worthOf(net.sides, ws());
    }

    int gain(int n) {
        return isNode(n) ? worthOf(net.sides ^ 1 << n, ws()) - worth() : B - 2;
    }

    // ---- all cuts

    private int[] worths() {
        int[] v = ws();
        int[] r = new int[1 << net.nodes];
        for (int s = 0; s < r.length; s++) {
            r[s] = worthOf(s, v);
        }
        return r;
    }

    private static int high(int[] r) {
        return Arrays.stream(r).max().getAsInt();
    }

    int all(int what) {
        if (what != 0 && what != 1) {
            return B - 2;
        }
        return what == 0 ? high(worths()) : Arrays.stream(worths()).min().getAsInt();
    }

    int best() {
        int[] r = worths();
        int h = high(r);
        return (int) Arrays.stream(r).filter(x -> x == h).count();
    }

    int stuck() {
        int[] r = worths();
        int n = 0;
        for (int s = 0; s < r.length; s++) {
            boolean free = false;
            for (int v = 0; v < net.nodes; v++) {
                free |= r[s ^ 1 << v] > r[s];
            }
            n += free ? 0 : 1;
        }
        return n;
    }

    /** The fewest flips, each of which gains low at least; by levels. */
    private int flips(int low) {
        int[] r = worths();
        int h = high(r);
        boolean[] in = new boolean[r.length];
        in[net.sides] = true;
        for (int k = 0; k <= 1024; k++) {
            boolean[] more = in.clone();
            for (int s = 0; s < r.length; s++) {
                if (in[s] && r[s] == h) {
                    return k;
                }
                for (int v = 0; v < net.nodes && in[s]; v++) {
                    more[s ^ 1 << v] |= r[s ^ 1 << v] - r[s] >= low;
                }
            }
            if (Arrays.equals(in, more)) {
                return -1;
            }
            in = more;
        }
        return -1;
    }

    int steps() {
        return flips(-1000000);
    }

    int climb() {
        return flips(0);
    }

    private int rise(int s, int[] r, int[] known) {
        if (known[s] < 0) {
            int most = 0;
            for (int v = 0; v < net.nodes; v++) {
                if (r[s ^ 1 << v] > r[s]) {
                    most = Math.max(most, 1 + rise(s ^ 1 << v, r, known));
                }
            }
            known[s] = most;
        }
        return known[s];
    }

    int longest() {
        int[] known = new int[1 << net.nodes];
        Arrays.fill(known, -1);
        return rise(net.sides, worths(), known);
    }

    // ---- weighed

    int warms(int t) {
        if (!isTray(t)) {
            return -2;
        }
        if (trays[t] == null) {
            return -6;
        }
        if (trays[t].length == 0 || trays[t].length > 8) {
            return -4;
        }
        for (long v : trays[t]) {
            if (v < 0 || v / 1000 >= net.links.size() || v % 1000 == 0 || v % 1000 > 199) {
                return -3;
            }
        }
        int bits = 0;
        for (int k = 0; k < 10; k++) {
            boolean so = true;
            for (long v : trays[t]) {
                so &= w((int) (v / 1000), k) == v % 1000 - 100;
            }
            bits |= so ? 1 << k : 0;
        }
        return bits;
    }

    int ask(int t) {
        int bits = warms(t);
        if (bits <= 0) {
            return bits == 0 ? -1 : bits;
        }
        int chosen = -1;
        int least = 99;
        for (int l = 0; l < net.links.size(); l++) {
            int most = 0;
            for (int v = -99; v <= 99; v++) {
                int n = 0;
                for (int k = 0; k < 10; k++) {
                    n += (bits >> k & 1) != 0 && w(l, k) == v ? 1 : 0;
                }
                most = Math.max(most, n);
            }
            if (most < least) {
                least = most;
                chosen = l;
            }
        }
        return chosen;
    }

    // ---- chances

    private long tally(int s, int n, int[] r, Integer k) {
        if (n == 0) {
            return k == null ? r[s] : r[s] >= k ? 1 : 0;
        }
        long sum = 0;
        for (int lot = 0; lot < 10; lot++) {
            sum += tally(lot < net.nodes ? s ^ 1 << lot : s, n - 1, r, k);
        }
        return sum;
    }

    private static int lowest(long above, long below, int what) {
        for (long d = below; d > 1; d--) {
            if (below % d == 0 && above % d == 0) {
                above /= d;
                below /= d;
            }
        }
        return (int) (what == 0 ? above : below);
    }

    int chance(int k, int n, int what) {
        if (what != 0 && what != 1) {
            return -2;
        }
        if (k < -9999 || k > 9999 || n < 0 || n > 4) {
            return -3;
        }
        return lowest(tally(net.sides, n, worths(), k), Math.round(Math.pow(10, n)), what);
    }

    int mean(int n, int what) {
        if (what != 0 && what != 1) {
            return B - 2;
        }
        if (n < 0 || n > 4) {
            return B - 3;
        }
        return lowest(tally(net.sides, n, worths(), null), Math.round(Math.pow(10, n)), what);
    }

    // ---- trays, images

    int numbers(int t, int sort, int n) {
        if (!isTray(t) || sort < 0 || sort > 3) {
            return -2;
        }
        if (n < 0 || n > 40) {
            return -3;
        }
        trays[t] = new long[n];
        sorts[t] = sort;
        return 0;
    }

    long write(int t, int i, long v) {
        if (!isTray(t)) {
            return -2;
        }
        if (trays[t] == null) {
            return -6;
        }
        if (i < 0 || i >= trays[t].length) {
            return -7;
        }
        int unused = 64 - (8 << sorts[t]);
        trays[t][i] = v << unused >> unused;
        return trays[t][i];
    }

    int lists(int t, int f) {
        if (!isTray(t) || !isFace(f)) {
            return -2;
        }
        if (trays[t] == null) {
            return -6;
        }
        int i = 0;
        for (int d : allFaces().get(f)) {
            if (i < trays[t].length) {
                trays[t][i++] = d;
            }
        }
        return i;
    }

    int image(int i) {
        if (i != 0 && i != 1) {
            return -2;
        }
        images[i] = net.copy();
        return 0;
    }

    int restore(int i) {
        if (i != 0 && i != 1) {
            return -2;
        }
        if (images[i] == null) {
            return -5;
        }
        net = images[i].copy();
        past.clear();
        return 0;
    }

    int count(int what) {
        int good = 0;
        int[] v = ws();
        for (int l = 0; l < v.length; l++) {
            good |= v[l] > 0 ? 1 << l : 0;
        }
        int[] answers = {net.nodes, v.length, net.warm, net.sides, good, cutOf(net.sides), past.size(), tape.length(), net.lines};
        return what >= 0 && what < answers.length ? answers[what] : -1;
    }
}
