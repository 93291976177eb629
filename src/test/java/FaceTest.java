import java.io.IOException;
import java.lang.reflect.Constructor;
import java.lang.reflect.Field;
import java.lang.reflect.Method;
import java.lang.reflect.Modifier;
import java.nio.file.Files;
import java.nio.file.Path;
import java.util.Arrays;
import java.util.Set;
import java.util.TreeSet;
import java.util.regex.Matcher;
import java.util.regex.Pattern;

/** The public face, and those rules of LANGUAGE.md that reflection or a scan of the text can see. */
public final class FaceTest {
    private static final String[] FACE = {
        "int senders(int)", "int gain(int,int,int)", "int set(int,int,int)", "int on(int)", "int power(int,int)",
        "int rule(int)", "int type(int)", "int wipe()", "int fault()", "int read(int)", "int info(int,int)",
        "int heard(int,int)", "long minor(int)", "int feasible()", "long least(int,int)", "int witness()",
        "int out()", "int admitted()", "int softer()", "int margin()", "long share(int,int)", "int step(int)",
        "int turn()", "int order()", "int still()", "int rest(int)", "int met()", "int sheet(int,int,int)",
        "int lose(int)", "int put(int,int,int,int)", "int get(int,int,int)", "int copy(int,int,int,int,int)",
        "int write(int)", "int count(int)", "long digest()"};
    private static final String[] FORBIDDEN = {
        "\\bthrow\\b", "\\bthrows\\b", "\\btry\\b", "\\bcatch\\b", "\\bsynchronized\\b", "\\bassert\\b", "->", "::",
        "\\bpackage\\b", "\\bimport\\b", "Exact\\(", "\\bequals\\b", "\\bhashCode\\b", "\\btoString\\b", "\\bdouble\\b", "\\bfloat\\b",
        "_VALUE\\b", "\\bThread\\b", "\\bnative\\b", "\\bvolatile\\b", "\\bSystem\\.(?!arraycopy)"};

    private static int wrong = 0;

    public static void main(String[] args) throws IOException {
        face();
        inside();
        text();
        System.out.println(wrong == 0 ? "face: all as due" : "face: " + wrong + " faults");
        if (wrong != 0) {
            System.exit(1);
        }
    }

    private static void due(boolean holds, String what) {
        if (!holds) {
            wrong++;
            System.out.println("face: " + what);
        }
    }

    private static void face() {
        Class<?> c = PowerShares.class;
        due(Modifier.isPublic(c.getModifiers()) && Modifier.isFinal(c.getModifiers()), "the class is public and final");
        Constructor<?>[] constructors = c.getDeclaredConstructors();
        due(constructors.length == 1 && constructors[0].getParameterCount() == 0
                && Modifier.isPublic(constructors[0].getModifiers()), "one public constructor without arguments");
        Set<String> open = new TreeSet<>();
        Set<String> openNames = new TreeSet<>();
        for (Method m : c.getDeclaredMethods()) {
            if (!Modifier.isPrivate(m.getModifiers())) {
                due(Modifier.isPublic(m.getModifiers()) && !Modifier.isStatic(m.getModifiers()), m + " is public, of an object");
                String types = Arrays.stream(m.getParameterTypes()).map(Class::getName).reduce((a, b) -> a + "," + b).orElse("");
                open.add(m.getReturnType().getName() + " " + m.getName() + "(" + types + ")");
                openNames.add(m.getName());
            }
        }
        due(open.equals(new TreeSet<>(Arrays.asList(FACE))), "the methods of the face are " + open);
        for (Method m : c.getDeclaredMethods()) {
            due(!Modifier.isPrivate(m.getModifiers()) || !openNames.contains(m.getName()), m + " bears a public name");
        }
        Set<String> openFields = new TreeSet<>();
        for (Field f : c.getDeclaredFields()) {
            if (!Modifier.isPrivate(f.getModifiers())) {
                openFields.add(Modifier.toString(f.getModifiers()) + " " + f.getType() + " " + f.getName());
            }
        }
        due(openFields.toString().equals("[public static final int BAD, public static final int FULL, "
                + "public static final int NONE, public static final int NOT]"), "the constants are " + openFields);
        due(PowerShares.NONE == -1 && PowerShares.BAD == -2 && PowerShares.NOT == -3 && PowerShares.FULL == -4,
                "the values of the constants");
    }

    private static void inside() {
        Class<?>[] classes = PowerShares.class.getDeclaredClasses();
        due(classes.length + 1 <= 12, "at most twelve classes");
        Set<String> publicNames = new TreeSet<>();
        for (Method m : PowerShares.class.getMethods()) {
            publicNames.add(m.getName());
        }
        for (Class<?> c : classes) {
            int mods = c.getModifiers();
            due(Modifier.isStatic(mods) && !Modifier.isPublic(mods) && !Modifier.isProtected(mods), c + " is static and not open");
            due(c.getDeclaredFields().length <= 20, c + " has at most twenty fields");
            for (Method m : c.getDeclaredMethods()) {
                due(m.getParameterCount() <= 7, m + " takes at most seven arguments");
                due(!publicNames.contains(m.getName()), m + " bears a public name");
            }
            staticsAreConstants(c);
        }
        staticsAreConstants(PowerShares.class);
    }

    private static void staticsAreConstants(Class<?> c) {
        for (Field f : c.getDeclaredFields()) {
            due(!Modifier.isStatic(f.getModifiers()) || Modifier.isFinal(f.getModifiers()), f + " is final");
        }
    }

    private static void text() throws IOException {
        String source = Files.readString(Path.of("src/main/java/PowerShares.java"));
        due(source.chars().allMatch(c -> c == '\n' || c >= 32 && c < 127), "the text has plain signs alone");
        String code = source.replaceAll("(?s)/\\*.*?\\*/", "").replaceAll("//[^\n]*", "");
        for (String word : FORBIDDEN) {
            Matcher m = Pattern.compile(word).matcher(code);
            due(!m.find(), "the text has " + word);
        }
        int since = 0;
        boolean within = false;
        for (String line : source.split("\n")) {
            if (line.matches(" {4}( {4})?[A-Za-z].*\\) \\{")) {
                since = 0;
                within = true;
            }
            since++;
            due(!within || since <= 60, "a method is longer than sixty lines: " + line);
            if (line.matches(" {4}( {4})?\\}")) {
                within = false;
            }
        }
    }
}
