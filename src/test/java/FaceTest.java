import java.lang.reflect.Constructor;
import java.lang.reflect.Field;
import java.lang.reflect.Method;
import java.lang.reflect.Modifier;
import java.nio.file.Files;
import java.nio.file.Path;
import java.util.Arrays;
import java.util.Set;
import java.util.TreeSet;
import java.util.regex.Matcher;
import java.util.regex.Pattern;

/** The face is the document's and no more; what of LANGUAGE.md can be looked for by eye is looked for. */
public final class FaceTest {
    private static final String FACE = "guard 3, told 2, as 2, turns 2, set 3, moves 2, at 1, rule 2, deal 1, seed 1, seen 1, "
        + "nights 1, border 1, covers 2, fewest 0, behind 2, bluff 0, washed 2, needed 1, becomes 3, like 2, fee 0, fine 1, "
        + "feed 3, trim 1, text 0, textTold 2, why 1, sheet 3, mark 3, pour 1, reads 1, copy 5, lay 3, ask 2, item 2, rest 2, "
        + "tell 1, check 1, keep 0, back 0, count 1";
    private static final String[] FORBIDDEN = {"throw", "throws", "try", "catch", "finally", "synchronized", "assert", "record",
        "enum", "lambda", "volatile", "native", "transient", "strictfp", "Object", "Exception", "equals", "hashCode", "toString",
        "protected", "package", "double", "float"};
    private static final int MOST_LINES = 60, MOST_CLASSES = 12, MOST_FIELDS = 20, MOST_PARAMETERS = 7;

    private static void methods() {
        Set<String> want = new TreeSet<>(Arrays.asList(FACE.split(", ")));
        Set<String> got = new TreeSet<>();
        for (Method m : StrawGarrison.class.getDeclaredMethods()) {
            if (!Modifier.isPrivate(m.getModifiers())) {
                got.add(m.getName() + " " + m.getParameterCount());
                boolean ints = m.getReturnType() == int.class;
                for (Class<?> type : m.getParameterTypes()) {
                    ints &= type == int.class;
                }
                Checks.holds(m + " is public and of ints", ints && m.getModifiers() == Modifier.PUBLIC);
            }
        }
        Checks.holds("the methods are the document's: " + got, want.equals(got));
    }

    private static void members() {
        Class<?> own = StrawGarrison.class;
        Checks.holds("public final", own.getModifiers() == (Modifier.PUBLIC | Modifier.FINAL));
        Constructor<?>[] constructors = own.getDeclaredConstructors();
        Checks.holds("one constructor", constructors.length == 1 && constructors[0].getParameterCount() == 0
            && constructors[0].getModifiers() == Modifier.PUBLIC);
        Set<String> constants = new TreeSet<>();
        for (Field f : own.getDeclaredFields()) {
            if (!Modifier.isPrivate(f.getModifiers())) {
                constants.add(f.getName());
                Checks.holds(f + " is a constant", f.getType() == int.class
                    && f.getModifiers() == (Modifier.PUBLIC | Modifier.STATIC | Modifier.FINAL));
            }
        }
        Checks.holds("the constants are the document's", constants.equals(new TreeSet<>(Arrays.asList("BAD", "NO", "FULL",
            "NONE", "NOTHING", "KIND", "INDEX", "SIZE"))));
        Set<String> face = new TreeSet<>(Arrays.asList(FACE.replaceAll(" \\d", "").split(",\\s*")));
        Class<?>[] inside = own.getDeclaredClasses();
        Checks.holds("few classes", inside.length < MOST_CLASSES);
        for (Class<?> c : inside) {
            Checks.holds(c + " is private and static", (c.getModifiers() & (Modifier.PRIVATE | Modifier.STATIC))
                == (Modifier.PRIVATE | Modifier.STATIC));
            looksWithin(c);
            for (Method m : c.getDeclaredMethods()) {
                Checks.holds(m + " has a name of its own", !face.contains(m.getName()));
            }
        }
        looksWithin(own);
    }

    private static void looksWithin(Class<?> c) {
        int fields = 0;
        for (Field f : c.getDeclaredFields()) {
            boolean isStatic = Modifier.isStatic(f.getModifiers());
            fields += isStatic ? 0 : 1;
            Checks.holds(f + " is final, if static", !isStatic || Modifier.isFinal(f.getModifiers()));
        }
        Checks.holds(c + " has few fields", fields <= MOST_FIELDS);
        for (Method m : c.getDeclaredMethods()) {
            Checks.holds(m + " has few parameters", m.getParameterCount() <= MOST_PARAMETERS);
        }
    }

    private static void words(String source) {
        String bare = source.replaceAll("(?s)/\\*.*?\\*/", "").replaceAll("//[^\n]*", "").replaceAll("\"[^\"\n]*\"", "\"\"");
        for (String word : FORBIDDEN) {
            Checks.holds("no " + word, !Pattern.compile("\\b" + word + "\\b").matcher(bare).find());
        }
        Checks.holds("no lambda, no method reference", !bare.contains("->") && !bare.contains("::"));
        Matcher imports = Pattern.compile("(?m)^import .*$").matcher(bare);
        while (imports.find()) {
            Checks.holds(imports.group(), imports.group().equals("import java.util.Arrays;"));
        }
        for (int i = 0; i < source.length(); i++) {
            if (source.charAt(i) > 126) {
                Checks.holds("only signs up to 126, place " + i, false);
            }
        }
    }

    /** A method is what begins with a line that ends with a brace behind a bracket, up to the brace as far in. */
    private static void lengths(String[] lines) {
        Pattern head = Pattern.compile("^(    |        )[a-zA-Z].*\\) \\{$");
        for (int i = 0; i < lines.length; i++) {
            Matcher m = head.matcher(lines[i]);
            if (m.matches()) {
                int end = i;
                while (end < lines.length && !lines[end].equals(m.group(1) + "}")) {
                    end++;
                }
                Checks.holds("short: " + lines[i].trim(), end - i < MOST_LINES);
            }
        }
    }

    /** A field's first value is made while its object is: it may be given nothing that is part of it. */
    private static void firstValues(String source) {
        Matcher given = Pattern.compile("(?m)^    (?:    )?(?:private |static |final )*\\w+ \\w+ = new \\w+\\(.+\\);$").matcher(source);
        while (given.find()) {
            Checks.holds("nothing of an object is handed out while it is made: " + given.group().trim(), false);
        }
    }

    public static void main(String[] args) throws Exception {
        methods();
        members();
        String source = Files.readString(Path.of("src/main/java/StrawGarrison.java"));
        words(source);
        firstValues(source);
        lengths(source.split("\n"));
        Checks.end();
    }
}
