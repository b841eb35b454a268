import java.lang.reflect.Constructor;
import java.lang.reflect.Executable;
import java.lang.reflect.Field;
import java.lang.reflect.Method;
import java.lang.reflect.Modifier;
import java.nio.charset.StandardCharsets;
import java.nio.file.Files;
import java.nio.file.Path;
import java.util.ArrayList;
import java.util.HashSet;
import java.util.List;
import java.util.Set;
import java.util.regex.Matcher;
import java.util.regex.Pattern;

/** The rules of LANGUAGE.md that can be seen in the file's text or in the classes made of it. */
public final class LanguageTest {
    private static final String FILE = "src/main/java/FaceCuts.java";
    private static final String FACE = "feed5 net1 fault1 link2 weight1 round2 next1 weigh2 flip1 turn2 warm1 fall0 sides0 undo1 judge2 "
        + "perform1 day2 faces0 face2 dart2 parts0 twists0 odd0 far2 across3 partner1 join0 proof1 greatest1 least1 worth0 gain1 all1 "
        + "best0 stuck0 steps0 climb0 longest0 warms1 ask1 chance3 mean2 numbers3 write3 lists2 image1 restore1 count1";

    private static final Set<String> LIBRARY = Set.of("java.lang.Object.\"<init>\"", "java.lang.System.arraycopy", "java.util.Arrays.fill",
        "java.lang.String.charAt", "java.lang.String.indexOf", "java.lang.String.length");
    private static final int DEEPEST = 8;

    private LanguageTest() {
    }

    public static void main(String[] args) throws Exception {
        String source = Files.readString(Path.of(FILE), StandardCharsets.ISO_8859_1);
        face();
        classes();
        words(source.replaceAll("(?s)/\\*.*?\\*/", "").replaceAll("//[^\n]*", "").replaceAll("\"[^\"\n]*\"", "\"\""));
        methodLengths(source);
        Bytecode.of(all()).ifPresentOrElse(LanguageTest::steps, () -> System.out.println("no javap here: steps not looked at"));
        Nets.end();
    }

    /** Rule 1. */
    private static void face() {
        Set<String> wanted = new HashSet<>(List.of(FACE.split(" ")));
        Set<String> names = new HashSet<>();
        for (Method m : FaceCuts.class.getDeclaredMethods()) {
            if (Modifier.isPublic(m.getModifiers())) {
                names.add(m.getName());
                Nets.due("a method of the face: " + m, wanted.remove(m.getName() + m.getParameterCount()) ? 1 : 0, 1);
            } else {
                Nets.due("private: " + m, Modifier.isPrivate(m.getModifiers()) ? 1 : 0, 1);
            }
        }
        Nets.due("methods that are missing: " + wanted, wanted.size(), 0);
        for (Class<?> c : all()) {
            for (Method m : c.getDeclaredMethods()) {
                boolean shared = names.contains(m.getName()) && !Modifier.isPublic(m.getModifiers());
                Nets.due("a name of the face: " + m, shared ? 1 : 0, 0);
            }
        }
        for (Field f : FaceCuts.class.getDeclaredFields()) {
            boolean fine = Modifier.isPrivate(f.getModifiers()) || f.getName().equals("NONE");
            Nets.due("private: " + f, fine ? 1 : 0, 1);
        }
        Nets.due("constructors", FaceCuts.class.getDeclaredConstructors().length, 1);
        Nets.due("final", Modifier.isFinal(FaceCuts.class.getModifiers()) ? 1 : 0, 1);
    }

    /** Rules 2, 5, 11. */
    private static void classes() {
        List<Class<?>> all = all();
        Nets.due("classes: " + all.size(), all.size() <= 12 ? 1 : 0, 1);
        for (Class<?> c : all) {
            Nets.due("static: " + c, c == FaceCuts.class || Modifier.isStatic(c.getModifiers()) ? 1 : 0, 1);
            int own = 0;
            for (Field f : c.getDeclaredFields()) {
                if (Modifier.isStatic(f.getModifiers())) {
                    Nets.due("final: " + f, Modifier.isFinal(f.getModifiers()) ? 1 : 0, 1);
                } else {
                    own++;
                }
            }
            Nets.due("fields of " + c + ": " + own, own <= 20 ? 1 : 0, 1);
            List<Executable> calls = new ArrayList<>(List.of(c.getDeclaredMethods()));
            for (Constructor<?> made : c.getDeclaredConstructors()) {
                calls.add(made);
            }
            for (Executable e : calls) {
                Nets.due("seven parameters at most: " + e, e.getParameterCount() <= 7 ? 1 : 0, 1);
            }
        }
    }

    private static List<Class<?>> all() {
        List<Class<?>> all = new ArrayList<>(List.of(FaceCuts.class.getDeclaredClasses()));
        all.add(FaceCuts.class);
        return all;
    }

    /** Rules 2, 4, 6, 13, in the text without comments and constants. */
    private static void words(String text) {
        String[] banned = {"\\b(throw|throws|try|catch|synchronized|assert|goto|native|volatile|transient)\\b", "->", "::", "\\bExact\\b",
            "\\w+Exact\\b", "\\bObject\\b", "\\bException\\b", "\\bstatic \\{", "\\.values\\(\\)", "\\bhashCode\\b", "\\btoString\\b",
            "\\bSystem\\.(?!arraycopy)", "\\bArrays\\.(?!copyOf|copyOfRange|fill)", "\\bprotected\\b", "^package\\b", "\\bvar\\b"};
        for (String b : banned) {
            Matcher m = Pattern.compile(b, Pattern.MULTILINE).matcher(text);
            Nets.due("in the text: " + b, m.find() ? 1 : 0, 0);
        }
        Matcher imports = Pattern.compile("(?m)^import (.*);").matcher(text);
        while (imports.find()) {
            Nets.due("import " + imports.group(1), imports.group(1).equals("java.util.Arrays") ? 1 : 0, 1);
        }
    }

    /** Rule 11: a method begins and ends at the same indent in this file. */
    private static void methodLengths(String source) {
        String[] lines = source.split("\n");
        for (int i = 0; i < lines.length; i++) {
            Nets.due("line " + (i + 1) + " is of 120 signs at most", lines[i].length() <= 120 ? 1 : 0, 1);
            if (lines[i].matches(" +(public |private |static )*[\\w\\[\\]]+ ?\\w*\\([^;]*\\) \\{") && !lines[i].matches(" +(if|for|while|switch) .*")) {
                String indent = lines[i].replaceAll("\\S.*", "");
                int end = i + 1;
                while (end < lines.length && !lines[end].equals(indent + "}")) {
                    end++;
                }
                Nets.due("sixty lines at most from line " + (i + 1), end - i <= 60 ? 1 : 0, 1);
            }
        }
    }

    /** Rules 4, 6, 11, 12, in the compiled steps. */
    private static void steps(Bytecode code) {
        Nets.due("methods were read", code.ownCalls.size() > 100 ? 1 : 0, 1);
        for (String method : code.ownCalls.keySet()) {
            Nets.due("calls go at most eight deep: " + method, code.depth(method) <= DEEPEST ? 1 : 0, 1);
        }
        for (String called : code.libraryCalls) {
            boolean fine = LIBRARY.contains(called) || called.matches("java\\.lang\\.(Math|Integer|Long)\\.(?!.*Exact)\\w+");
            Nets.due("the library: " + called, fine ? 1 : 0, 1);
        }
        Nets.due("objects made by calls: " + code.makers, code.makers.size(), 0);
        Nets.due("thrown, caught or locked: " + code.bannedIn, code.bannedIn.size(), 0);
    }
}
