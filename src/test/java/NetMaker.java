import java.util.ArrayList;
import java.util.List;
import java.util.Random;

/** Makes texts of nets by draws: flat ones and others, with laws, and faulty ones. */
final class NetMaker {
    private final Random draw;

    NetMaker(Random draw) {
        this.draw = draw;
    }

    String text() {
        List<String> t = new ArrayList<>();
        say(t, "net warm " + draw.nextInt(10) + " ;");
        int nodes = draw.nextInt(8) == 0 ? draw.nextInt(3) : 2 + draw.nextInt(9);
        for (int i = 0; i < nodes; i++) {
            say(t, "node ;");
        }
        if (nodes > 1) {
            addLinks(t, nodes);
        }
        if (draw.nextInt(3) == 0) {
            say(t, "weighs : " + sum(draw.nextInt(4)) + " ;");
        }
        if (draw.nextInt(4) == 0) {
            say(t, "counts : " + truth(draw.nextInt(4)) + " ;");
        }
        if (draw.nextInt(8) == 0) {
            say(t, "weighs : " + sum(1) + " ;");
        }
        return written(t);
    }

    /** A text that most often has a fault: tokens or bytes struck, doubled, put in. */
    String faulty() {
        String s = text();
        int times = 1 + draw.nextInt(3);
        String[] put = {"node", "link", "net", ";", ":", "(", "[", "not ", "if", "then", "0", "99", "100", "1234", "?", "A", "\t", "end", ")", "]",
            "round", "or", "and", "=", "gains", "warm", "x", "*", "-", "\u00e9", "\n", " "};
        for (int i = 0; i < times; i++) {
            int at = draw.nextInt(s.length() + 1);
            int to = Math.min(s.length(), at + draw.nextInt(4));
            switch (draw.nextInt(4)) {
                case 0:
                    s = s.substring(0, at) + s.substring(to);
                    break;
                case 1:
                    s = s.substring(0, at) + put[draw.nextInt(put.length)] + s.substring(at);
                    break;
                case 2:
                    s = s.substring(0, at) + put[draw.nextInt(put.length)] + s.substring(to);
                    break;
                default:
                    s = draw.nextInt(3) == 0 ? s.substring(0, at) : s.substring(0, to) + s.substring(at);
            }
        }
        return s;
    }

    private void addLinks(List<String> t, int nodes) {
        int wanted = draw.nextInt(17);
        int most = draw.nextInt(3) == 0 ? 1 : draw.nextInt(3) == 0 ? 4 : 99;
        int shown = draw.nextInt(4) == 0 ? 2 : nodes;
        boolean flat = draw.nextInt(4) != 0;
        int losing = draw.nextInt(6);
        List<int[]> links = new ArrayList<>();
        List<List<Integer>> rings = new ArrayList<>();
        for (int i = 0; i < nodes; i++) {
            rings.add(new ArrayList<>());
        }
        for (int tries = 0; tries < 400 && links.size() < wanted; tries++) {
            int a = draw.nextInt(shown);
            int b = draw.nextInt(shown);
            if (a == b) {
                continue;
            }
            int l = links.size();
            links.add(new int[] {a, b});
            rings.get(a).add(draw.nextInt(rings.get(a).size() + 1), l);
            rings.get(b).add(draw.nextInt(rings.get(b).size() + 1), l);
            if (flat && !isFlat(links, rings)) {
                links.remove(l);
                rings.get(a).remove((Integer) l);
                rings.get(b).remove((Integer) l);
            }
        }
        for (int[] l : links) {
            String way = draw.nextInt(6) < losing ? " loses " : " gains ";
            say(t, "link " + l[0] + " " + l[1] + way + draw.nextInt(most + 1) + " ;");
        }
        for (int v = 0; v < nodes; v++) {
            List<Integer> ring = rings.get(v);
            int told = flat ? ring.size() : draw.nextInt(ring.size() + 1);
            if (told > 0 && (flat || draw.nextBoolean())) {
                StringBuilder s = new StringBuilder("round " + v + " ");
                for (int i = 0; i < told; i++) {
                    s.append(ring.get(i)).append(' ');
                }
                say(t, s + ";");
            }
        }
    }

    /** By Euler's rule over the parts with links. */
    private static boolean isFlat(List<int[]> links, List<List<Integer>> rings) {
        int[] part = new int[rings.size()];
        int parts = 0;
        for (int v = 0; v < part.length; v++) {
            part[v] = v;
            parts += rings.get(v).isEmpty() ? 0 : 1;
        }
        int used = parts;
        for (int[] l : links) {
            int a = part[l[0]];
            int b = part[l[1]];
            if (a != b) {
                parts--;
                for (int v = 0; v < part.length; v++) {
                    part[v] = part[v] == a ? b : part[v];
                }
            }
        }
        boolean[] seen = new boolean[2 * links.size()];
        int faces = 0;
        for (int d = 0; d < seen.length; d++) {
            if (seen[d]) {
                continue;
            }
            faces++;
            for (int e = d; !seen[e];) {
                seen[e] = true;
                int v = links.get(e / 2)[e % 2 == 0 ? 1 : 0];
                List<Integer> ring = rings.get(v);
                int l = ring.get((ring.indexOf(e / 2) + 1) % ring.size());
                e = links.get(l)[0] == v ? 2 * l : 2 * l + 1;
            }
        }
        return used - links.size() + faces == 2 * parts;
    }

    private String sum(int deep) {
        String s = term(deep);
        for (int i = draw.nextInt(3); i > 0; i--) {
            s += (draw.nextBoolean() ? " + " : " - ") + term(deep);
        }
        return s;
    }

    private String term(int deep) {
        String s = atom(deep);
        for (int i = draw.nextInt(4) / 2; i > 0; i--) {
            s += " * " + atom(deep);
        }
        return s;
    }

    private String atom(int deep) {
        int k = draw.nextInt(deep > 0 ? 10 : 7);
        if (k > 8) {
            return "if " + truth(deep - 1) + " then " + sum(deep - 1) + " else " + sum(deep - 1) + " end";
        }
        if (k > 6) {
            return "( " + sum(deep - 1) + " )";
        }
        String[] words = {"told", "from", "to", "link", "warm", "told"};
        return k < 6 ? words[k] : "" + draw.nextInt(draw.nextBoolean() ? 8 : 1000);
    }

    private String truth(int deep) {
        String s = unit(deep);
        for (int i = draw.nextInt(4) / 2; i > 0; i--) {
            s += (draw.nextBoolean() ? " or " : " and ") + unit(deep);
        }
        return s;
    }

    private String unit(int deep) {
        int k = draw.nextInt(deep > 0 ? 6 : 4);
        if (k == 5) {
            return "not " + unit(deep - 1);
        }
        if (k == 4) {
            return "[ " + truth(deep - 1) + " ]";
        }
        return sum(Math.max(0, deep - 1)) + new String[] {" = ", " < ", " > "}[draw.nextInt(3)] + sum(0);
    }

    private static void say(List<String> t, String line) {
        for (String x : line.trim().split(" +")) {
            t.add(x);
        }
    }

    /** Blanks only where two tokens would be one without, and by draws elsewhere. */
    private String written(List<String> t) {
        boolean wide = draw.nextInt(3) == 0;
        StringBuilder s = new StringBuilder();
        for (String x : t) {
            if (s.length() > 0) {
                boolean needed = sort(s.charAt(s.length() - 1)) == sort(x.charAt(0)) && sort(x.charAt(0)) != 2;
                if (needed || wide || draw.nextInt(9) == 0) {
                    s.append(draw.nextInt(5) == 0 ? '\n' : ' ');
                }
            }
            s.append(x);
        }
        return s.toString();
    }

    private static int sort(char c) {
        return Character.isLetter(c) ? 0 : Character.isDigit(c) ? 1 : 2;
    }
}
