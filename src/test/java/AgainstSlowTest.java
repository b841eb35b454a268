import java.lang.reflect.InvocationTargetException;
import java.lang.reflect.Method;
import java.util.ArrayList;
import java.util.Comparator;
import java.util.List;
import java.util.Random;

/** Runs of drawn calls, each answered by FaceCuts and by SlowCuts, which goes through everything the long way. */
public final class AgainstSlowTest {
    private static final int RUNS = 700;
    private static final int CALLS = 100;
    /* An object is used for 512 calls at most. */
    private static final int MOST_CALLS = 440;

    private static final int[] EDGES = {Integer.MIN_VALUE, -1, 0, 1, 9, 10, Integer.MAX_VALUE};

    private final Random draw;
    private final NetMaker maker;
    private final FaceCuts fast = new FaceCuts();
    private final SlowCuts slow = new SlowCuts();
    private final List<String> told = new ArrayList<>();

    private AgainstSlowTest(long seed) {
        draw = new Random(seed);
        maker = new NetMaker(draw);
    }

    public static void main(String[] args) throws Exception {
        List<Method> methods = new ArrayList<>();
        for (Method m : FaceCuts.class.getDeclaredMethods()) {
            if (java.lang.reflect.Modifier.isPublic(m.getModifiers())) {
                methods.add(m);
            }
        }
        methods.sort(Comparator.comparing(Method::getName));
        Nets.due("public methods", methods.size(), 48);
        int flat = 0;
        long first = args.length > 0 ? Long.parseLong(args[0]) : 0;
        long runs = args.length > 1 ? Long.parseLong(args[1]) : RUNS;
        for (long seed = first; seed < first + runs; seed++) {
            AgainstSlowTest run = new AgainstSlowTest(seed);
            flat += run.play(methods, seed);
        }
        for (String net : new String[] {"", Nets.TRIANGLE, Nets.TWISTED, Nets.WHEEL, Nets.SIXTEEN_LINKS, Nets.ringOfSixteen(-7)}) {
            for (Method m : methods) {
                if (!m.getName().equals("feed")) {
                    new AgainstSlowTest(first).playEdges(methods, net, m);
                }
            }
        }
        Nets.due("many runs are of a flat net with several odd faces, of " + flat, flat * 8 > runs ? 1 : 0, 1);
        Nets.end();
    }

    /** 1 if the net is flat and has several odd faces at first. */
    private int play(List<Method> methods, long seed) throws Exception {
        tell(methods, maker.text());
        int flat = fast.twists() == 0 && Integer.bitCount(fast.odd()) > 2 ? 1 : 0;
        int calls = seed % 25 == 0 ? MOST_CALLS : CALLS;
        for (int i = 0; i < calls; i++) {
            if (draw.nextInt(60) == 0) {
                tell(methods, draw.nextInt(3) == 0 ? maker.text() : maker.faulty());
            }
            Method m = methods.get(draw.nextInt(methods.size()));
            // These would leave few nets flat, if they came as often as others.
            if (List.of("turn", "day", "perform").contains(m.getName()) && draw.nextInt(3) != 0) {
                continue;
            }
            Object[] args = new Object[m.getParameterCount()];
            for (int k = 0; k < args.length; k++) {
                args[k] = m.getParameterTypes()[k] == long.class ? (Object) number() : (Object) argument(m.getName(), k);
            }
            if (!same(m, args)) {
                System.out.println("  in run " + seed + ": " + told);
                return flat;
            }
        }
        if (fast.twists() == 0) {
            Nets.due("run " + seed + ": greatest(0) is all(0)", fast.greatest(0), fast.all(0));
            Nets.due("run " + seed + ": least(0) is all(1)", fast.least(0), fast.all(1));
            Nets.due("run " + seed + ": proof", fast.proof(0) - fast.proof(1), fast.greatest(0));
        }
        return flat;
    }

    /** One method by all edges of all its arguments, one behind the other. */
    private void playEdges(List<Method> methods, String net, Method m) throws Exception {
        tell(methods, net);
        for (int[] tray : new int[][] {{0, 0, 3}, {1, 3, 0}, {2, 2, 40}}) {
            fast.numbers(tray[0], tray[1], tray[2]);
            slow.numbers(tray[0], tray[1], tray[2]);
        }
        fast.image(1);
        slow.image(1);
        int all = 1;
        for (int k = 0; k < m.getParameterCount(); k++) {
            all *= EDGES.length;
        }
        for (int i = 0; i < all; i++) {
            Object[] args = new Object[m.getParameterCount()];
            int rest = i;
            for (int k = 0; k < args.length; k++) {
                int edge = EDGES[rest % EDGES.length];
                args[k] = m.getParameterTypes()[k] == long.class ? (Object) (long) edge : (Object) edge;
                rest /= EDGES.length;
            }
            if (!same(m, args)) {
                System.out.println("  of " + told);
                return;
            }
        }
    }

    private void tell(List<Method> methods, String text) throws Exception {
        int[] w = Nets.words(text);
        for (int i = 0; i < w.length; i += 5) {
            fast.feed(w[i], w[i + 1], w[i + 2], w[i + 3], w[i + 4]);
            slow.feed(w[i], w[i + 1], w[i + 2], w[i + 3], w[i + 4]);
        }
        told.add("[" + text + "]");
        for (String name : new String[] {"net", "fault", "fault"}) {
            for (Method m : methods) {
                if (m.getName().equals(name)) {
                    same(m, new Object[] {name.equals("net") ? text.length() : told.size() % 2});
                }
            }
        }
    }

    private boolean same(Method m, Object[] args) throws Exception {
        Method other = SlowCuts.class.getDeclaredMethod(m.getName(), m.getParameterTypes());
        String call = m.getName() + java.util.Arrays.toString(args);
        told.add(call);
        long want = ((Number) other.invoke(slow, args)).longValue();
        long got;
        try {
            got = ((Number) m.invoke(fast, args)).longValue();
        } catch (InvocationTargetException e) {
            System.out.println(call + " threw " + e.getCause());
            got = Long.MIN_VALUE;
        }
        Nets.due(call, got, want);
        return got == want;
    }

    private int argument(String name, int k) {
        if (draw.nextInt(150) == 0) {
            return new int[] {Integer.MIN_VALUE, Integer.MAX_VALUE, -1, 1 << 16, 1000}[draw.nextInt(5)];
        }
        switch (name + k) {
            case "feed0":
            case "feed1":
            case "feed2":
            case "feed3":
            case "feed4":
            case "day0":
                return draw.nextInt();
            case "net0":
                return draw.nextInt(40) - 2;
            case "day1":
                return draw.nextInt(draw.nextBoolean() ? 3 : 43);
            case "weigh1":
                return draw.nextInt(203) - 101;
            case "chance0":
                return draw.nextInt(4) == 0 ? draw.nextInt(20100) - 10050 : draw.nextInt(60) - 20;
            case "numbers2":
                return draw.nextInt(draw.nextInt(6) == 0 ? 43 : 6);
            case "numbers1":
                return draw.nextInt(12) == 0 ? draw.nextInt(7) - 1 : draw.nextInt(4);
            case "restore0":
            case "image0":
                return draw.nextInt(4) - 1;
            case "undo0":
                return draw.nextInt(4) == 0 ? draw.nextInt(12) : 1;
            case "warm0":
                return draw.nextInt(12) - 1;
            case "next0":
                return draw.nextInt(33);
            case "link0":
            case "weight0":
            case "weigh0":
                return draw.nextInt(18) - 1;
            default:
                return small();
        }
    }

    private int small() {
        return draw.nextInt(3) == 0 ? draw.nextInt(12) - 1 : draw.nextInt(3);
    }

    /** For trays: deeds, weights as they are, other numbers. */
    private long number() {
        int links = fast.count(1);
        switch (draw.nextInt(8)) {
            case 0:
                return draw.nextLong();
            case 1:
                return draw.nextInt(20);
            case 2:
                return 100 + draw.nextInt(160);
            case 3:
                return 1000 + draw.nextInt(16400);
            case 4:
                return 1000 + 1000 * draw.nextInt(Math.max(1, links)) + draw.nextInt(199);
            default:
                int l = draw.nextInt(links + 1);
                return 1000L * l + 100 + Math.max(-100, fast.weight(l));
        }
    }
}
