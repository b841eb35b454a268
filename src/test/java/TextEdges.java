import java.util.List;
import java.util.Set;
import java.util.TreeSet;

/** The net and its text, laws and rounds, sentence by sentence; promises 1 to 8. */
final class TextEdges {
    private static final String HEAD = "net warm 1;node;node;link 0 1 gains 1;";
    private static final String TEN = Nets.TEN_NODES;
    private static final String SIXTEEN = Nets.SIXTEEN_LINKS;
    private static final int OFF = -99000000;
    private static final int LOW = Integer.MIN_VALUE;
    private static final int HIGH = Integer.MAX_VALUE;

    private TextEdges() {
    }

    static void run() {
        theNet();
        netAfterNet();
        links();
        rounds();
        whatMayFollow();
        tokens();
        faults();
        nested();
        lawsCompare();
        lawsCount();
        newObject();
        feed();
        net();
        netWithFaults();
        fault();
        link();
        weight();
        round();
        next();
    }

    private static void due(String sentence, long got, long want) {
        Heads.due(sentence, got, want);
    }

    private static void takes(String sentence, String text, int lines) {
        FaceCuts x = new FaceCuts();
        due(sentence + " <" + text + ">", Nets.read(x, text), lines);
        due(sentence + " <" + text + ">, fault", x.fault(0), 0);
        due(sentence + " <" + text + ">, place", x.fault(1), -1);
    }

    /** The fault lies where the first part ends. */
    private static void refuses(String sentence, String ahead, String behind, int kind) {
        FaceCuts x = new FaceCuts();
        due(sentence + " <" + ahead + "|" + behind + ">", Nets.read(x, ahead + behind), -30 - kind);
        due(sentence + " <" + ahead + "|" + behind + ">, fault", x.fault(0), kind);
        due(sentence + " <" + ahead + "|" + behind + ">, place", x.fault(1), ahead.length());
        due(sentence + " <" + ahead + "|" + behind + ">, no net", x.count(8), 0);
    }

    // ---- terms

    private static void theNet() {
        Heads.head("Terms 1: the net");
        FaceCuts none = new FaceCuts();
        due("without one: warmth 0", none.count(2), 0);
        due("without one: no nodes", none.count(0), 0);
        takes("no lines but net", "net warm 0;", 1);
        String filled = "net warm 7;" + "node;".repeat(2) + " ".repeat(874) + "node;";
        due("at most 900 bytes", filled.length(), 900);
        takes("at most 900 bytes", filled, 4);
        refuses("at most 900 bytes, the last is read, too", filled.substring(0, 899), "?", 1);
        for (int warmth = 0; warmth <= 9; warmth++) {
            due("the warmth, 0 to 9", Nets.of("net warm " + warmth + ";").count(2), warmth);
        }
        refuses("the warmth, 0 to 9: 10", "net warm ", "10;", 3);
        refuses("the warmth, 0 to 9: 999", "net warm ", "999;", 3);
        for (int nodes = 0; nodes <= 10; nodes++) {
            due("nodes, 10 at most", Nets.of("net warm 0;" + "node;".repeat(nodes)).count(0), nodes);
        }
        refuses("nodes, 10 at most", TEN, "node;", 4);
        refuses("the first token of an 11th node, whatever comes behind", TEN, "node ?", 4);
        refuses("the first token of an 11th node, at the end", TEN, "node", 4);
        takes("ten nodes, then other lines", TEN + "link 9 0 gains 1;round 9 0;weighs:1;", 14);
        FaceCuts x = Nets.of(HEAD + "weighs:5;counts:1=2;weighs:6;weighs:told+7;");
        due("later ones of weighs count, counts stays", x.weight(0), 0);
        x = Nets.of(HEAD + "counts:1=2;weighs:5;counts:1=2;counts:1=1;weighs:told+7;");
        due("later ones of counts and weighs count", x.weight(0), 8);
        x = Nets.of(HEAD + "counts:1=1;counts:1=2;");
        due("later ones of counts count, if they don't hold", x.weight(0), 0);
        x = Nets.of("net warm 0;weighs:3;counts:1=1;node;node;link 0 1 gains 9;");
        due("laws ahead of what they weigh", x.weight(0), 3);
        Nets.read(x, HEAD);
        due("another net is without them", x.weight(0), 1);
        x = Nets.of(HEAD + "weighs:1;".repeat(94) + "weighs:2;");
        due("the last of ninety-five counts", x.weight(0), 2);
    }

    /** Net after net in one object, faulty ones between: nothing of an earlier one is left. */
    private static void netAfterNet() {
        Heads.head("Promise 3: net");
        String all = "net warm 9;node;node;node;link 1 0 gains 7;link 2 1 gains 8;link 0 2 gains 6;round 0 2 0;round 1 1 0;round 2 2 1;"
            + "weighs:told*2;counts:link=0;";
        String plain = "net warm 1;node;node;node;link 0 1 gains 1;link 1 2 gains 2;";
        FaceCuts x = new FaceCuts();
        for (int times = 0; times < 4; times++) {
            due("net with all", Nets.read(x, all), 12);
            due("net with all: weight", x.weight(0), 14);
            due("net with all: round", x.round(1, 0), 1);
            if (times % 2 == 1) {
                due("with a fault", Nets.read(x, all + "?"), -31);
            }
            for (int more = 0; more <= times; more++) {
                due("plain net", Nets.read(x, plain), 6);
                due("plain net: warmth", x.count(2), 1);
                due("plain net: links", x.count(1), 2);
                due("plain net: weights", x.weight(0) * 10 + x.weight(1), 12);
                due("plain net: round 0", x.round(0, 0) * 10 + x.round(0, 1), -1);
                due("plain net: round 1", x.round(1, 0) * 10 + x.round(1, 1), 1);
                due("plain net: no more round 1", x.round(1, 2), -1);
                due("plain net: greatest", x.greatest(0), 3);
            }
        }
    }

    private static void links() {
        Heads.head("Terms 1: links");
        refuses("both nodes told ahead: the first, of none", "net warm 0;link ", "0 1 gains 1;", 3);
        refuses("both nodes told ahead: the first", "net warm 0;node;node;link ", "2 0 gains 1;", 3);
        refuses("both nodes told ahead: the second", "net warm 0;node;node;link 0 ", "2 gains 1;node;", 3);
        takes("both nodes told ahead: the greatest", "net warm 0;node;node;node;link 2 1 gains 1;link 0 2 gains 1;", 6);
        refuses("to which other one", "net warm 0;node;node;link 0 ", "0 gains 1;", 3);
        refuses("to which other one", "net warm 0;node;node;link 1 ", "1 gains 1;", 3);
        refuses("to which other one, by as great a number", "net warm 0;node;node;link 1 ", "01 gains 1;", 3);
        FaceCuts x = Nets.of("net warm 0;node;node;link 0 1 gains 3;link 0 1 loses 4;link 1 0 gains 5;");
        due("of the same two nodes there can be several", x.count(1), 3);
        due("numbered from 0 on", x.weight(0), 3);
        due("numbered from 0 on, as told", x.weight(1), -4);
        due("numbered from 0 on, as told", x.weight(2), 5);
        due("from which node to which", x.link(2, 0), 1);
        due("gains 0", Nets.of("net warm 0;node;node;link 0 1 gains 0;").weigh(0, 1), 0);
        due("gains 99", Nets.of("net warm 0;node;node;link 0 1 gains 99;").weigh(0, 1), 99);
        due("loses 0", Nets.of("net warm 0;node;node;link 0 1 loses 0;").weigh(0, 1), 0);
        due("loses 99", Nets.of("net warm 0;node;node;link 0 1 loses 99;").weigh(0, 1), -99);
        refuses("gains 100", "net warm 0;node;node;link 0 1 gains ", "100;", 3);
        refuses("loses 100", "net warm 0;node;node;link 0 1 loses ", "100;", 3);
        due("links, 16 at most", Nets.of(SIXTEEN).count(1), 16);
        refuses("links, 16 at most", SIXTEEN, "link 0 1 gains 1;", 4);
        refuses("the first token of a 17th link, whatever comes behind", SIXTEEN, "link 7 ?", 4);
        takes("sixteen links, then other lines", SIXTEEN + "node;round 0 15;counts:1=1;", 22);
    }

    private static void rounds() {
        Heads.head("Terms 1: round");
        String star = "net warm 0;node;node;node;link 0 1 gains 1;link 0 2 gains 1;link 1 0 gains 1;";
        order("none told: by their numbers", star, 0, 0, 1, 2);
        order("those of round first, in this order, then by their numbers", star + "round 0 2;", 0, 2, 0, 1);
        order("all told", star + "round 0 2 1 0;", 0, 2, 1, 0);
        order("of this node alone", star + "round 0 2 1 0;", 1, 0, 2);
        order("a later one strikes", star + "round 0 2 1 0;round 0 1;", 0, 1, 0, 2);
        order("a later one strikes, without links, too", star + "round 0 2 1 0;round 0;", 0, 0, 1, 2);
        order("one of another node doesn't", star + "round 0 2 1 0;round 1;", 0, 2, 1, 0);
        order("links told behind lie behind", star + "round 0 2;link 2 0 gains 1;", 0, 2, 0, 1, 3);
        order("a later one of a link that was told in the earlier one", star + "round 0 1;round 0 2 1;", 0, 2, 1, 0);
        takes("no links", "net warm 0;node;round 0;", 3);
        refuses("a node: none", "net warm 0;round ", "0;node;", 3);
        refuses("a node: the next one", "net warm 0;node;node;round ", "2;", 3);
        takes("a node: the last", TEN + "round 9;", 12);
        refuses("a node: beyond ten", TEN + "round ", "10;", 3);
        refuses("links of it: of others", star + "round 2 ", "0;", 3);
        refuses("links of it: the second isn't", star + "round 2 1 ", "2;", 3);
        refuses("told ahead: the next one", star + "round 0 ", "3;link 0 1 gains 1;", 3);
        refuses("told ahead: far off", star + "round 0 ", "999;", 3);
        refuses("each once", star + "round 0 2 1 ", "2;", 3);
        refuses("each once", star + "round 0 0 ", "0;", 3);
        String all = SIXTEEN + "round 0 15 14 13 12 11 10 9 8 7 6 5 4 3 2 1 0";
        order("all sixteen", all + ";", 0, 15, 14, 13, 12, 11, 10, 9, 8, 7, 6, 5, 4, 3, 2, 1, 0);
        refuses("behind all sixteen", all + " ", "7;", 3);
        refuses("behind all sixteen, none such", all + " ", "16;", 3);
    }

    private static void order(String sentence, String text, int node, int... links) {
        FaceCuts x = Nets.of(text);
        for (int i = 0; i < links.length; i++) {
            due(sentence + " <" + text + ">, place " + i, x.round(node, i), links[i]);
        }
        due(sentence + " <" + text + ">, no more", x.round(node, links.length), -1);
    }

    /** Behind each beginning each token: it can stand there, or it is fault 2 (1 if it is no token). */
    private static void whatMayFollow() {
        Heads.head("Terms 1: the text");
        String atom = "0 ( if told from to link warm";
        String unit = atom + " not [";
        String sum = "+ - *";
        follow("", "net");
        follow("net", "warm");
        follow("net warm", "0");
        follow("net warm 0", ";");
        follow("net warm 0;", "node link round weighs counts end-of-text");
        follow(HEAD, "node link round weighs counts end-of-text");
        follow(HEAD + "node", ";");
        follow(HEAD + "link", "0");
        follow(HEAD + "link 1", "0");
        follow(HEAD + "link 1 0", "gains loses");
        follow(HEAD + "link 1 0 gains", "0");
        follow(HEAD + "link 1 0 loses", "0");
        follow(HEAD + "link 1 0 gains 5", ";");
        follow(HEAD + "round", "0");
        follow(HEAD + "round 1", "0 ;");
        follow(HEAD + "round 1 0", "0 ;");
        follow(HEAD + "weighs", ":");
        for (String s : new String[] {"", "1+", "1-", "1*", "(", "(1+", "if 1=1 then", "if 1=1 then 1 else"}) {
            follow(HEAD + "weighs:" + s, atom);
        }
        for (String s : new String[] {"1", "1+1", "1-1", "1*1", "told", "from", "to", "link", "warm", "(1)", "1+1*(1)",
            "if 1=1 then 1 else 1 end"}) {
            follow(HEAD + "weighs:" + s, sum + " ;");
        }
        follow(HEAD + "weighs:(1", sum + " )");
        follow(HEAD + "weighs:((1)", sum + " )");
        follow(HEAD + "weighs:if", unit);
        follow(HEAD + "weighs:if 1", sum + " = < >");
        follow(HEAD + "weighs:if 1=1", sum + " and or then");
        follow(HEAD + "weighs:if [1=1]", "and or then");
        follow(HEAD + "weighs:if 1=1 then 1", sum + " else");
        follow(HEAD + "weighs:if 1=1 then 1 else 1", sum + " end");
        follow(HEAD + "counts", ":");
        for (String s : new String[] {"", "not", "not not", "[", "1=1 or", "1=1 and", "[1=1] and not"}) {
            follow(HEAD + "counts:" + s, unit);
        }
        for (String s : new String[] {"1=", "1<", "1>", "[1="}) {
            follow(HEAD + "counts:" + s, atom);
        }
        for (String s : new String[] {"1", "told", "(1)", "not 1", "1=1 and 1"}) {
            follow(HEAD + "counts:" + s, sum + " = < >");
        }
        for (String s : new String[] {"1=1", "1<told", "not 1>1", "1=1 or 1=1", "[1=1] and 1=1"}) {
            follow(HEAD + "counts:" + s, sum + " and or ;");
        }
        follow(HEAD + "counts:[1=1", sum + " and or ]");
        follow(HEAD + "counts:[1=1]", "and or ;");
        follow(HEAD + "counts:not [1=1]", "and or ;");
    }

    private static void follow(String ahead, String may) {
        Set<String> fine = new TreeSet<>(List.of(may.split(" ")));
        String words = "net warm node link gains loses round weighs counts if then else end told from to or and not";
        String all = words + " nodes 0 ; : + - * ( ) [ ] = < > ? A 1000 _ end-of-text";
        for (String token : all.split(" ")) {
            boolean ends = token.equals("end-of-text");
            String text = ahead + " " + (ends ? "" : token);
            FaceCuts x = new FaceCuts();
            int answer = Nets.read(x, text);
            int at = ahead.length() + 1;
            String sentence = "<" + ahead + "> then <" + token + ">";
            if (fine.contains(token)) {
                boolean taken = ends ? answer > 0 : x.fault(1) > at || x.fault(0) > 2 || answer > 0;
                due(sentence + " can stand there", taken ? 1 : 0, 1);
            } else {
                boolean none = Set.of("?", "A", "1000", "_").contains(token);
                due(sentence + " can't stand there", x.fault(0), none ? 1 : 2);
                due(sentence + " can't stand there: place", x.fault(1), at);
            }
        }
    }

    private static void tokens() {
        Heads.head("Terms 1: tokens");
        for (int c = 0; c < 256; c++) {
            String sign = "" + (char) c;
            boolean blank = c == 10 || c == 32;
            boolean begins = c >= 'a' && c <= 'z' || c >= '0' && c <= '9' || ";:+-*()[]=<>".indexOf(c) >= 0;
            if (blank) {
                takes("blanks: " + c, "net" + sign + "warm" + sign + "0" + sign + ";" + sign + "node;", 2);
            } else {
                refuses("byte " + c + " begins " + (begins ? "a token" : "none"), "net warm 0;", sign, begins ? 2 : 1);
            }
            boolean digit = c >= '0' && c <= '9';
            FaceCuts x = new FaceCuts();
            Nets.read(x, "net warm 1" + sign + "2;");
            due("byte " + c + " within a number", x.fault(1), digit ? 9 : blank || c == ';' ? 11 : 10);
        }
        takes("blanks are free ahead, between and behind", " \n net \n\n warm  0 ;\n node\n;  ", 2);
        takes("no blanks where tokens end by themselves", "net warm0;node;node;link0 1gains5;weighs:if1=1then2else3end;", 5);
        refuses("words as long as they go on", "", "netwarm 0;", 2);
        refuses("words as long as they go on", "net warm 0;", "nodenode;", 2);
        refuses("words as long as they go on", "net warm 0;", "nodes;", 2);
        refuses("words that end too early", "net warm 0;", "nod;", 2);
        refuses("words with a blank within", "net warm 0;", "no de;", 2);
        refuses("numbers as long as they go on", "net warm ", "12;", 3);
        refuses("numbers with a blank within are two", "net warm 1 ", "2;", 2);
        due("numbers of 1 digit", Nets.of("net warm 7;").count(2), 7);
        due("numbers of 2 digits", Nets.of("net warm 07;").count(2), 7);
        due("numbers of 3 digits", Nets.of("net warm 007;").count(2), 7);
        refuses("numbers of 4 digits: at their first", "net warm ", "0007;", 1);
        refuses("numbers of 40 digits: at their first", "net warm ", "9".repeat(40) + ";", 1);
        refuses("numbers of 4 digits, the least kind", "net warm 0;node;", "1000;", 1);
        takes("999 in a law", "net warm 0;weighs:999;", 2);
        refuses("1000 in a law", "net warm 0;weighs:", "1000;", 1);
    }

    private static void faults() {
        Heads.head("Terms 1: faults");
        refuses("the end: the text's length", "", "", 2);
        refuses("the end: the text's length, blanks and all", "net warm 0; node \n ", "", 2);
        refuses("the end: the text's length, within a line", "net warm 0;weighs:1", "", 2);
        refuses("net must be told first", "", "node;net warm 0;", 2);
        refuses("net must be told first", "", "; net warm 0;", 2);
        refuses("net once", "net warm 0;", "net warm 0;", 2);
        refuses("net once", HEAD, "net warm 1;", 2);
        refuses("the first along the text, of whatever kind", "net warm ", "10; ?", 3);
        refuses("the first along the text", "net warm 0; ", "then ?", 2);
        refuses("the first along the text", TEN, "node;?", 4);
        refuses("of one token the least: 1 ahead of 2", "net warm 0 ", "1000;", 1);
        refuses("of one token the least: 1 ahead of 3", "net warm 0;node;node;link 0 ", "1234 gains 1;", 1);
        refuses("of one token the least: 2 ahead of 3", "net warm 0;node;", "999;", 2);
        refuses("of one token the least: 2 ahead of 3", "net warm 0;node;node;link 0 1 gains 1 ", "100;", 2);
        refuses("of one token the least: 2 ahead of 4, nested", "net warm 0;weighs:((((((", "[", 2);
        refuses("of one token the least: 2 ahead of 4, nested", "net warm 0;weighs:((((((", "not", 2);
        refuses("of one token the least: 2 ahead of 4, nested", "net warm 0;weighs:((((((1", "(", 2);
        refuses("of one token the least: 2 ahead of 4, nested", "net warm 0;weighs:((((((1 ", "if", 2);
        refuses("of one token the least: 2 ahead of 4, nested", "net warm 0;counts:[[[[[[1=1 ", "not", 2);
        refuses("of one token the least: 2 ahead of 4, a node", TEN + "link ", "node;", 2);
        refuses("of one token the least: 2 ahead of 4, a link", SIXTEEN + "round 0 ", "link;", 2);
        refuses("a faulty number in a line that is one too many is not the first", SIXTEEN, "link 1 1 gains 100;", 4);
    }

    private static void nested() {
        Heads.head("Terms 1: six within one another");
        String[] begin = {"(", "if", "not ", "["};
        String[] outer = {"weighs:((((((", "weighs:" + "if 1=1 then ".repeat(6), "counts:not not not not not not ", "counts:[[[[[[",
            "counts:" + "if 1=1 then 1 else ".repeat(6), "counts:not[(if not["};
        boolean[] truth = {false, false, true, true, false, true};
        for (int i = 0; i < outer.length; i++) {
            for (int k = 0; k < 4; k++) {
                String six = "net warm 0;" + outer[i];
                int kind = k < 2 || truth[i] ? 4 : 2;
                refuses("a seventh", six, begin[k], kind);
                if (!truth[i]) {
                    refuses("a seventh behind +", six + "1+", begin[k], kind);
                    refuses("a seventh behind *", six + "1*", begin[k], kind);
                }
            }
        }
        for (String s : new String[] {"and ", "or "}) {
            for (String t : begin) {
                refuses("a seventh behind " + s, "net warm 0;counts:[[[[[[1=1 " + s, t, 4);
            }
        }
        for (String s : new String[] {"=", "<", ">"}) {
            refuses("a seventh behind " + s, "net warm 0;counts:[[[[[[1" + s, "(", 4);
        }
        refuses("a seventh in an if's truth", "net warm 0;weighs:if if if if if if ", "[", 4);
        refuses("a seventh in an if's truth", "net warm 0;weighs:if if if if if if ", "not ", 4);
        due("six (", weighed("((((((7))))))"), 7);
        due("six if", weighed("if 1=1 then ".repeat(6) + "7" + " else 0 end".repeat(6)), 7);
        due("six if, else", weighed("if 1=2 then 0 else ".repeat(6) + "7" + " end".repeat(6)), 7);
        due("six if in truths", weighed("if ".repeat(6) + "1=1" + " then 7 else 8 end > 0".repeat(5) + " then 7 else 8 end"), 7);
        due("six not", holds("not not not not not not 1=1"), 1);
        due("six [", holds("[[[[[[1=1]]]]]]"), 1);
        due("one behind the other", weighed("(1)+(1)*((((((1))))))+if 1=1 then (1) else 2 end"), 3);
        due("one behind the other, nine nots", holds("not 1=2" + " and not 1=2".repeat(8)), 1);
        due("one behind the other within five", weighed("(((((" + "(1)" + "+(1)".repeat(9) + ")))))"), 10);
        due("then and else as deep as if", weighed("if ((((1))))=1 then (((((2))))) else (((((3))))) end"), 2);
        due("a law behind a law", Nets.of(HEAD + "weighs:((((((7))))));counts:[[[[[[1=1]]]]]];").weight(0), 7);
    }

    private static int weighed(String sum) {
        return Nets.of("net warm 4;node;node;node;link 0 1 gains 1;link 2 1 loses 7;weighs:" + sum + ";").weight(1);
    }

    /** 1 if a truth holds, else 0. */
    private static int holds(String truth) {
        return Nets.of("net warm 4;node;node;node;link 0 1 gains 1;link 2 1 loses 7;weighs:1;counts:" + truth + ";").weight(1);
    }

    private static void lawsCompare() {
        Heads.head("Terms 2: truths");
        due("1=1", holds("1=1"), 1);
        due("1=2", holds("1=2"), 0);
        due("2=1", holds("2=1"), 0);
        due("1<2", holds("1<2"), 1);
        due("1<1", holds("1<1"), 0);
        due("2<1", holds("2<1"), 0);
        due("2>1", holds("2>1"), 1);
        due("1>1", holds("1>1"), 0);
        due("1>2", holds("1>2"), 0);
        String[] half = {"1=2", "1=1"};
        for (int a = 0; a < 2; a++) {
            due("not " + a, holds("not " + half[a]), 1 - a);
            for (int b = 0; b < 2; b++) {
                due(a + " and " + b, holds(half[a] + " and " + half[b]), a & b);
                due(a + " or " + b, holds(half[a] + " or " + half[b]), a | b);
                due("not " + a + " and " + b + ": of the unit alone", holds("not " + half[a] + " and " + half[b]), 1 - a & b);
                due("not " + a + " or " + b + ": of the unit alone", holds("not " + half[a] + " or " + half[b]), 1 - a | b);
                due("not [" + a + " or " + b + "]", holds("not [" + half[a] + " or " + half[b] + "]"), 1 - (a | b));
                for (int c = 0; c < 2; c++) {
                    due(a + " or " + b + " and " + c, holds(half[a] + " or " + half[b] + " and " + half[c]), a | b & c);
                    due(a + " and " + b + " or " + c, holds(half[a] + " and " + half[b] + " or " + half[c]), a & b | c);
                    due("[" + a + " or " + b + "] and " + c, holds("[" + half[a] + " or " + half[b] + "] and " + half[c]), (a | b) & c);
                }
            }
        }
        due("sums on either side", holds("1+2*3=7-0 and 2*2+1>2+2"), 1);
        due("if tells the one sum, if the truth holds", weighed("if told<0 then 5 else 6 end"), 5);
        due("else the other one", weighed("if told>0 then 5 else 6 end"), 6);
        due("an if's sums go on", weighed("2*if 1=1 then 3+4 else 9 end+1"), 15);
    }

    private static void lawsCount() {
        Heads.head("Terms 2: weights");
        due("told: what it gains, loses: less than 0", weighed("told"), -7);
        due("from", weighed("from"), 2);
        due("to", weighed("to"), 1);
        due("link: its number", weighed("link"), 1);
        due("warm: the warmth", weighed("warm"), 4);
        String unlike = "net warm 5;node;node;node;node;link 0 1 gains 1;link 0 1 gains 1;link 0 3 gains 1;link 3 1 gains 9;weighs:";
        String[] words = {"told", "from", "to", "link", "warm", "told*16+from*8+to*4+link*2+warm-99"};
        int[] tell = {1, 0, 3, 2, 5, 16 + 12 + 4 + 5 - 99};
        for (int i = 0; i < words.length; i++) {
            due("of link 2: " + words[i], Nets.of(unlike + words[i] + ";").weight(2), tell[i]);
        }
        FaceCuts x = Nets.of(HEAD + "weighs:told*10+warm;counts:told<5 or warm=9;");
        due("both laws", x.weight(0), 11);
        x.weigh(0, -6);
        due("told: now", x.weight(0), -59);
        x.weigh(0, 5);
        due("told: now, in counts, too", x.weight(0), 0);
        x.warm(9);
        due("warm: now", x.weight(0), 59);
        due("without weighs: what it gains", Nets.of("net warm 0;node;node;link 0 1 gains 99;counts:1=1;").weight(0), 99);
        due("without weighs: loses less than 0", Nets.of("net warm 0;node;node;link 0 1 loses 99;").weight(0), -99);
        due("99 at most", weighed("99"), 99);
        due("99 at most", weighed("100"), 99);
        due("99 at most", weighed("999*999*999"), 99);
        due("-99 at least", weighed("0-99"), -99);
        due("-99 at least", weighed("0-100"), -99);
        due("-99 at least", weighed("0-999*999*999"), -99);
        due("98 is no bound", weighed("98"), 98);
        due("-98 is no bound", weighed("0-98"), -98);
        due("from the left", weighed("10-3-2"), 5);
        due("from the left", weighed("10-3+2"), 9);
        due("* ahead of + and -", weighed("2+3*4-5*2"), 4);
        due("( )", weighed("(2+3)*4-(5-2)"), 17);
        String million = "999*999+999+999+1";
        due("a million isn't cut", holds(million + ">999*999+999+999"), 1);
        due("+ is kept to 1000000", holds(million + "+1=" + million), 1);
        due("+ is kept at each step", holds(million + "+1-1<" + million), 1);
        due("- is kept to 1000000", holds(million + "-(0-1)=" + million), 1);
        due("* is kept to 1000000", holds("(999+1)*(999+2)=" + million), 1);
        due("* of a million", holds("(999+1)*(999+1)=" + million), 1);
        due("* below it", holds("(999+1)*999<" + million + " and (999+1)*999=999*999+999"), 1);
        due("* far beyond it", holds("(" + million + ")*(" + million + ")=" + million), 1);
        String less = "(0-999*999-999-999-1)";
        due("less a million isn't cut", holds(less + "<0-999*999-999-999"), 1);
        due("- is kept from -1000000", holds(less + "-1=" + less), 1);
        due("- is kept at each step", holds(less + "-1+1>" + less), 1);
        due("+ is kept from -1000000", holds(less + "+(0-1)=" + less), 1);
        due("* is kept from -1000000", holds("(0-999-1)*(999+2)=" + less), 1);
        due("* of less a million", holds("(0-999-1)*(999+1)=" + less), 1);
        due("* far beyond it", holds(less + "*(" + million + ")=" + less), 1);
        due("* of two that are less than 0", holds(less + "*" + less + "=" + million), 1);
    }

    // ---- promises 1 to 8

    private static void newObject() {
        Heads.head("Promise 1: A new object");
        FaceCuts x = new FaceCuts();
        for (int what = 0; what <= 8; what++) {
            due("count(" + what + ")", x.count(what), 0);
        }
        due("NONE", FaceCuts.NONE, -1);
        due("no fault", x.fault(0), 0);
        due("no place", x.fault(1), -1);
        due("no node 0", x.round(0, 0), -2);
        due("no node 0: flip", x.flip(0), OFF - 11);
        due("no node 0: gain", x.gain(0), OFF - 2);
        due("no node 0: turn", x.turn(0, 0), -11);
        due("no link 0", x.link(0, 0), -2);
        due("no link 0: weight", x.weight(0), OFF - 2);
        due("no link 0: weigh", x.weigh(0, 0), OFF - 11);
        due("no dart 0", x.next(0), -2);
        due("no faces", x.faces(), 0);
        due("no face 0", x.face(0, 0), -2);
        due("no face 0: dart", x.dart(0, 0), -2);
        due("no face 0: far", x.far(0, 0), -2);
        due("no face 0: across", x.across(0, 0, 0), -2);
        due("no face 0: partner", x.partner(0), -2);
        due("no parts", x.parts(), 0);
        due("flat", x.twists(), 0);
        due("no odd faces", x.odd(), 0);
        due("no join", x.join(), 0);
        due("proof 0", x.proof(0), 0);
        due("proof 1", x.proof(1), 0);
        for (int what = 0; what <= 2; what++) {
            due("greatest(" + what + ")", x.greatest(what), 0);
            due("least(" + what + ")", x.least(what), 0);
        }
        due("worth", x.worth(), 0);
        due("all(0)", x.all(0), 0);
        due("all(1)", x.all(1), 0);
        due("one set of sides", x.best(), 1);
        due("it is stuck", x.stuck(), 1);
        due("steps", x.steps(), 0);
        due("climb", x.climb(), 0);
        due("longest", x.longest(), 0);
        due("chance that it is 0", x.chance(0, 4, 0), 1);
        due("chance that it is 1", x.chance(1, 4, 0), 0);
        due("mean", x.mean(4, 0), 0);
        due("mean, below", x.mean(4, 1), 1);
        due("nothing to undo", x.undo(1), -3);
        for (int i = 0; i < 4; i++) {
            due("tray " + i + " is missing", x.write(i, 0, 0), -6);
        }
        due("no image 0", x.restore(0), -5);
        due("no image 1", x.restore(1), -5);
        due("warmth 0", x.warm(9), 0);
        due("fall", x.fall(), 0);
        due("sides", x.sides(), 0);
        due("three calls to undo", x.undo(3), 0);
        due("warmth 0 again", x.count(2), 0);
        FaceCuts other = new FaceCuts();
        Twins.rich(other);
        due("another object has nothing of it", x.count(0) + x.count(6) + x.count(7) + x.faces(), 0);
        due("another object has no tray of it", x.judge(0, 0), -6);
        due("another object has no image of it", x.restore(0), -5);
        FaceCuts long512 = new FaceCuts();
        for (int i = 1; i < 512; i++) {
            long512.warm(i % 10);
        }
        due("the 512th call", long512.warm(0), 511 % 10);
    }

    private static void feed() {
        Heads.head("Promise 2: feed");
        FaceCuts x = new FaceCuts();
        for (int i = 1; i <= 45; i++) {
            due("twenty bytes come behind, call " + i, x.feed(i, -i, LOW, HIGH, 0), 20 * i);
        }
        due("it would have more than 900", x.feed(0, 0, 0, 0, 0), -5);
        due("it has 900", x.count(7), 900);
        Twins.unchanged("it would have more than 900", y -> {
            Twins.rich(y);
            for (int i = 0; i < 44; i++) {
                y.feed(0x20202020, 0x20202020, 0x20202020, 0x20202020, 0x20202020);
            }
        }, y -> y.feed(-1, -1, -1, -1, -1), -5);
        due("read, it is empty", x.net(0), -32);
        due("then twenty come again", x.feed(0, 0, 0, 0, 0), 20);
        String text = "net warm 7;weighs:0;";
        int[] w = Nets.words(text);
        FaceCuts y = new FaceCuts();
        y.feed(w[0], w[1], w[2], w[3], w[4]);
        due("the highest of each int first, the first int first", y.net(20), 2);
        y.feed(0x6e657420, 0x7761726d, 0x20373b20, 0x20202020, 0x202020ff);
        y.feed(0x80202020, 0, 0, 0, 0);
        due("bytes above 127", y.net(40), -31);
        due("bytes above 127", y.fault(1), 19);
        y.feed(0x6e657420, 0x7761726d, 0x20373b20, 0x20202020, 0x20202020);
        y.feed(0x80202020, 0, 0, 0, 0);
        due("behind those on the tape", y.net(40), -31);
        due("behind those on the tape", y.fault(1), 20);
    }

    private static void net() {
        Heads.head("Promise 3: net");
        Twins.unchanged("n is below 0", Twins::rich, x -> x.net(-1), -3);
        Twins.unchanged("n is below 0", Twins::rich, x -> x.net(LOW), -3);
        Twins.unchanged("n is above what there is", Twins::rich, x -> x.net(21), -3);
        Twins.unchanged("n is above what there is", Twins::rich, x -> x.net(HIGH), -3);
        Twins.unchanged("n is above what there is: of none", x -> { }, x -> x.net(1), -3);
        FaceCuts x = new FaceCuts();
        due("0 of none is the text without bytes", x.net(0), -32);
        Nets.feed(x, "net warm 8;node;");
        due("all there is", x.net(20), 2);
        due("the tape is empty then", x.count(7), 0);
        Nets.feed(x, "net warm 8;node;");
        due("the first n bytes", x.net(11), 1);
        due("the tape is empty then, of the rest, too", x.count(7), 0);
        due("no node", x.count(0), 0);
        Nets.feed(x, "net warm 8;node;");
        due("the first n bytes, one too few", x.net(15), -32);
        due("the place", x.fault(1), 15);
        due("the tape is empty then, of the rest, too", x.count(7), 0);
        Nets.feed(x, "net warm 8;node;");
        due("0 of some", x.net(0), -32);
        due("0 of some: the tape is empty", x.count(7), 0);
        FaceCuts full = new FaceCuts();
        due("900 bytes", Nets.read(full, "net warm 8;" + "weighs:1;".repeat(98) + "node ; "), 100);
        due("900 bytes: lines", full.count(8), 100);
        FaceCuts y = new FaceCuts();
        Twins.rich(y);
        y.flip(0);
        due("a side is 1", y.count(3), 1);
        due("lines, net, too", y.net(20), 2);
        due("all sides are 0", y.count(3), 0);
        due("nothing can be undone", y.count(6), 0);
        due("nothing can be undone", y.undo(1), -3);
        due("the net", y.count(0) * 100 + y.count(1) * 10 + y.count(2), 108);
        due("trays stay", y.write(2, 39, 0), 0);
        due("trays stay missing", y.write(3, 0, 0), -6);
        due("images stay", y.restore(0), 0);
        due("images stay", y.count(1), 3);
        Nets.read(y, Nets.TRIANGLE);
        y.weigh(0, 50);
        y.turn(0, 0);
        Nets.read(y, Nets.TRIANGLE);
        due("what links gain is as told", y.weight(0), 5);
        due("what lies round is as told", y.round(0, 0), 0);
    }

    private static void netWithFaults() {
        Heads.head("Promise 3: net");
        String[] texts = {"net warm 0;node;node;link 0 1 gains 1;weighs:1;counts:1=2;?", "net warm 0;node;node;link 0 1 gains 1;round 0 0",
            "net warm 0;node;node;link 0 1 gains 1;weighs:5;round 0 1;", "net warm 0;counts:1=2;weighs:((((((("};
        for (int kind = 1; kind <= 4; kind++) {
            String text = texts[kind - 1];
            Twins.faulty("with a fault all stays: " + text, Twins::rich, x -> {
                x.net(0);
                return Nets.read(x, text);
            }, -30 - kind);
        }
        FaceCuts x = new FaceCuts();
        due("with a fault and no net ahead", Nets.read(x, "net warm 5;node;weighs:1;node"), -32);
        due("there is none", x.count(0) + x.count(2) + x.count(8), 0);
        due("a net behind a fault has nothing of it", Nets.read(x, "net warm 0;node;node;link 0 1 gains 8;"), 4);
        due("a net behind a fault has nothing of it", x.weight(0), 8);
    }

    private static void fault() {
        Heads.head("Promise 4: fault");
        FaceCuts x = new FaceCuts();
        due("at first", x.fault(0), 0);
        due("at first, its place", x.fault(1), -1);
        for (int what : new int[] {-1, 2, LOW, HIGH}) {
            due("others: " + what, x.fault(what), -1);
        }
        String[] texts = {"net?", "net;", "net warm 10;", TEN + "node;"};
        int[] places = {3, 3, 9, 61};
        for (int kind = 1; kind <= 4; kind++) {
            Nets.read(x, texts[kind - 1]);
            due("kind " + kind, x.fault(0), kind);
            due("place of kind " + kind, x.fault(1), places[kind - 1]);
            due("others", x.fault(2), -1);
            x.net(1);
            x.net(-1);
            due("of the latest that was read: kind " + kind, x.fault(0), kind);
            due("of the latest that was read: place of " + kind, x.fault(1), places[kind - 1]);
        }
        x.image(0);
        Nets.read(x, "net warm 0;");
        due("none", x.fault(0), 0);
        due("no place", x.fault(1), -1);
        x.restore(0);
        due("an image has none of it", x.fault(0), 0);
        Nets.read(x, "");
        due("place 0", x.fault(1), 0);
        Nets.read(x, TEN + " ".repeat(838) + "?");
        due("the last place", x.fault(1), 899);
        Nets.read(x, TEN + " ".repeat(839));
        due("900 without one", x.fault(1), -1);
        Nets.read(x, "net" + " ".repeat(897));
        due("the end of 900", x.fault(1), 900);
    }

    private static void link() {
        Heads.head("Promise 5: link");
        FaceCuts x = Nets.of(Nets.WHEEL);
        int[][] want = {{0, 0, 1, 0, 1}, {7, 0, 8, 7, 0}, {8, 1, 2, 8, 1}, {15, 8, 1, 8, 0}};
        for (int[] w : want) {
            for (int what = 0; what < 4; what++) {
                due("link " + w[0] + ", what " + what, x.link(w[0], what), w[what + 1]);
            }
        }
        for (int l : new int[] {-1, 16, LOW, HIGH, 1 << 30}) {
            for (int what = 0; what < 4; what++) {
                due("no such link: " + l, x.link(l, what), -2);
            }
        }
        due("the last of three", Nets.of(Nets.TRIANGLE).link(2, 3), 1);
        due("behind the last of three", Nets.of(Nets.TRIANGLE).link(3, 3), -2);
        for (int what : new int[] {-1, 4, LOW, HIGH}) {
            due("no such what: " + what, x.link(0, what), -2);
        }
        FaceCuts bridge = Nets.of("net warm 0;node;node;link 1 0 gains 1;");
        due("both darts in one face", bridge.link(0, 2), 0);
        due("both darts in one face", bridge.link(0, 3), 0);
        Twins.unchanged("no such link", Twins::rich, y -> y.link(3, 0), -2);
        Twins.unchanged("asked", Twins::rich, y -> y.link(2, 0), 2);
    }

    private static void weight() {
        Heads.head("Promise 6: weight");
        StringBuilder text = new StringBuilder("net warm 0;node;node;");
        for (int l = 0; l < 16; l++) {
            text.append("link 0 1 ").append(l % 2 == 0 ? "gains " : "loses ").append(99 - l).append(';');
        }
        FaceCuts x = Nets.of(text.toString());
        for (int l = 0; l < 16; l++) {
            due("of link " + l, x.weight(l), l % 2 == 0 ? 99 - l : l - 99);
        }
        for (int l : new int[] {-1, 16, LOW, HIGH}) {
            due("no link " + l, x.weight(l), OFF - 2);
        }
        due("behind the last of three", Nets.of(Nets.TRIANGLE).weight(3), OFF - 2);
        Twins.unchanged("no such link", Twins::rich, y -> y.weight(3), OFF - 2);
        Twins.unchanged("asked", Twins::rich, y -> y.weight(0), 17);
    }

    private static void round() {
        Heads.head("Promise 7: round");
        FaceCuts x = Nets.of(Nets.WHEEL);
        due("the first", x.round(0, 0), 0);
        due("the last", x.round(0, 7), 7);
        due("not so many", x.round(0, 8), -1);
        due("not so many", x.round(0, HIGH), -1);
        due("of round first", x.round(1, 1), 15);
        due("of three", x.round(8, 2), 15);
        due("of three: not so many", x.round(8, 3), -1);
        due("a node without links", x.round(9, 0), -1);
        due("below 0", x.round(0, -1), -3);
        due("below 0", x.round(9, LOW), -3);
        for (int n : new int[] {-1, 10, LOW, HIGH}) {
            due("no node " + n, x.round(n, 0), -2);
            due("no node " + n + " ahead of -3", x.round(n, -1), -2);
            due("no node " + n + " ahead of NONE", x.round(n, HIGH), -2);
        }
        due("behind the last of three", Nets.of(Nets.TRIANGLE).round(3, 0), -2);
        FaceCuts full = Nets.of(SIXTEEN);
        due("the last of sixteen", full.round(1, 15), 15);
        due("behind the last of sixteen", full.round(1, 16), -1);
        full.turn(1, 14);
        due("as it lies now", full.round(1, 15), 14);
        due("as it lies now", full.round(1, 14), 15);
        Twins.unchanged("no such node", Twins::rich, y -> y.round(3, 0), -2);
        Twins.unchanged("below 0", Twins::rich, y -> y.round(0, -1), -3);
        Twins.unchanged("not so many", Twins::rich, y -> y.round(0, 2), -1);
    }

    private static void next() {
        Heads.head("Promise 8: next");
        FaceCuts x = Nets.of(Nets.WHEEL);
        int[][] want = {{0, 31}, {31, 15}, {15, 0}, {1, 2}, {2, 17}, {17, 1}, {14, 29}, {16, 18}, {30, 16}, {28, 30}};
        for (int[] w : want) {
            due("of dart " + w[0], x.next(w[0]), w[1]);
        }
        for (int dart : new int[] {-1, 32, LOW, HIGH}) {
            due("no dart " + dart, x.next(dart), -2);
        }
        FaceCuts bridge = Nets.of("net warm 0;node;node;link 1 0 gains 1;");
        due("the only link: back", bridge.next(0), 1);
        due("the only link: back", bridge.next(1), 0);
        due("behind the last of two", bridge.next(2), -2);
        FaceCuts three = Nets.of("net warm 0;node;node;link 0 1 gains 1;link 1 0 gains 1;link 0 1 gains 1;");
        due("the link behind that one", three.next(0), 2);
        due("behind the last the first", three.next(4), 1);
        due("from there", three.next(1), 3);
        three.turn(1, 0);
        due("as it lies now", three.next(0), 5);
        Twins.unchanged("no such dart", Twins::rich, y -> y.next(6), -2);
        Twins.unchanged("asked", Twins::twisted, y -> y.next(9), 0);
    }
}
