import java.io.IOException;
import java.lang.reflect.Constructor;
import java.lang.reflect.Field;
import java.lang.reflect.Method;
import java.lang.reflect.Modifier;
import java.nio.file.Files;
import java.nio.file.Path;
import java.util.ArrayList;
import java.util.Arrays;
import java.util.List;
import java.util.Set;
import java.util.TreeSet;
import java.util.regex.Matcher;
import java.util.regex.Pattern;

/** The document's face, and those rules of LANGUAGE.md that can be seen from outside. */
public final class FaceTest {
    private static final Path SOURCE = Path.of("src/main/java/SentRound.java");
    private static final String[] FACE = {
        "int pass 1", "int house 1", "int doubt 2", "int reading 4", "int read 1", "int takeBack 1", "int about 2",
        "int asOf 1", "int factor 1", "int drift 2", "int many 2", "int told 2", "int agree 3", "int agreeing 1",
        "int common 2", "int chain 2", "int via 2", "long number 3", "int mark 2", "int judged 2", "int run 1",
        "long within 3", "int widest 1", "long share 2", "long parts 3", "int ways 2", "long score 1", "int type 1",
        "int wipe 0", "int fault 0", "int reckon 0", "int claim 1", "int sheet 3", "int lose 1", "int put 4",
        "int get 3", "int copy 5", "int write 2", "int count 1", "long digest 0"};
    private static final Set<String> LIBRARY = Set.of("Math.abs", "Math.max", "Math.min", "Math.floorDiv",
        "Math.floorMod", "Integer.bitCount", "Integer.signum", "Integer.compare", "Long.compare", "Integer.MIN_VALUE",
        "Long.MIN_VALUE", "Arrays.fill", "Arrays.copyOf", "Arrays.copyOfRange", "System.arraycopy");
    private static final Pattern FORBIDDEN = Pattern.compile(
        "\\b(throws?|try|catch|synchronized|assert|yield|volatile|var|Object|Exception|import static|double|float)\\b"
        + "|->|::|\\bstatic \\{");
    private static final Pattern METHOD = Pattern.compile("^ +(?:public |private |static |final )*\\w[\\w\\[\\]]* \\w+\\(.*");

    private static int wrong = 0;

    private static void want(boolean holds, String what) {
        if (!holds) {
            wrong++;
            System.out.println(what);
        }
    }

    private static void face() {
        Set<String> found = new TreeSet<>();
        for (Method m : SentRound.class.getDeclaredMethods()) {
            boolean open = Modifier.isPublic(m.getModifiers());
            want(open || Modifier.isPrivate(m.getModifiers()), m + " is neither public nor private");
            if (open) {
                found.add(m.getReturnType() + " " + m.getName() + " " + m.getParameterCount());
                want(!Modifier.isStatic(m.getModifiers()), m + " is static");
                for (Class<?> c : m.getParameterTypes()) want(c == int.class, m + " takes no ints");
            }
        }
        want(found.equals(new TreeSet<>(Arrays.asList(FACE))), "the face is " + found);
        for (Field f : SentRound.class.getDeclaredFields()) {
            boolean constant = List.of("NONE", "BAD", "NOT", "FULL").contains(f.getName());
            want(Modifier.isPublic(f.getModifiers()) == constant, f + " should be " + (constant ? "public" : "private"));
            want(constant || Modifier.isPrivate(f.getModifiers()), f + " is seen from outside");
            want(!constant || f.getType() == int.class && Modifier.isStatic(f.getModifiers()), f + " is no constant");
        }
        Constructor<?>[] made = SentRound.class.getDeclaredConstructors();
        want(made.length == 1 && made[0].getParameterCount() == 0 && Modifier.isPublic(made[0].getModifiers()), "the constructor");
        want(Modifier.isFinal(SentRound.class.getModifiers()) && Modifier.isPublic(SentRound.class.getModifiers()), "public and final");
    }

    private static void classes() {
        Class<?>[] inside = SentRound.class.getDeclaredClasses();
        want(inside.length <= 11, "too many classes: " + inside.length);
        Set<String> names = new TreeSet<>();
        for (String f : FACE) names.add(f.split(" ")[1]);
        List<Class<?>> all = new ArrayList<>(Arrays.asList(inside));
        for (Class<?> c : inside) {
            want(Modifier.isStatic(c.getModifiers()), c + " is not static");
            want(!Modifier.isPublic(c.getModifiers()) && !Modifier.isProtected(c.getModifiers()), c + " is seen from outside");
            for (Method m : c.getDeclaredMethods()) want(!names.contains(m.getName()), m + " bears a public name");
        }
        all.add(SentRound.class);
        for (Class<?> c : all) {
            int fields = 0;
            for (Field f : c.getDeclaredFields()) {
                if (Modifier.isStatic(f.getModifiers())) want(Modifier.isFinal(f.getModifiers()), f + " is not final");
                else fields++;
            }
            want(fields <= 20, c + " has " + fields + " fields");
            Set<String> open = new TreeSet<>();
            for (Method m : c.getDeclaredMethods()) {
                want(m.getParameterCount() <= 7, m + " takes too many");
                want(open.add(m.getName()), m + " bears a name that another method of the class has");
            }
        }
    }

    private static void source() throws IOException {
        String text = Files.readString(SOURCE);
        for (int i = 0; i < text.length(); i++) want(text.charAt(i) < 128, "a sign above 127 at " + i);
        String code = text.replaceAll("(?s)/\\*.*?\\*/", "").replaceAll("//.*", "");
        Matcher bad = FORBIDDEN.matcher(code);
        while (bad.find()) want(false, "not of the language: " + bad.group());
        Matcher library = Pattern.compile("\\b(Math|Integer|Long|Arrays|System|Character|Short|Byte)\\.\\w+").matcher(code);
        while (library.find()) want(LIBRARY.contains(library.group()), "not of the library: " + library.group());
        Matcher imports = Pattern.compile("import .*").matcher(code);
        while (imports.find()) want(imports.group().equals("import java.util.Arrays;"), imports.group());
        for (String line : code.split("\n")) {
            want(!line.contains("new ") || line.matches(" +(final |private )?.*\\w+ = new .*;"), "made outside a field: " + line);
            want(line.length() <= 110, "a long line: " + line);
        }
    }

    private static void lengths() throws IOException {
        List<String> lines = Files.readAllLines(SOURCE);
        for (int i = 0; i < lines.size(); i++) {
            String line = lines.get(i);
            if (!METHOD.matcher(line).matches() || !line.endsWith("{")) continue;
            String end = line.substring(0, line.length() - line.stripLeading().length()) + "}";
            int last = i;
            while (last < lines.size() && !lines.get(last).equals(end)) last++;
            want(last - i < 60, "a method of " + (last - i + 1) + " lines: " + line.strip());
        }
    }

    public static void main(String[] args) throws IOException {
        face();
        classes();
        source();
        lengths();
        System.out.println(wrong == 0 ? "the face and the rules hold" : wrong + " things are not as they should be");
        if (wrong != 0) System.exit(1);
    }
}
