import java.lang.reflect.Method;
import java.lang.reflect.Modifier;
import java.util.Arrays;
import java.util.Comparator;
import java.util.TreeSet;

/**
 * What the tests of boundary cases share. A test is a method pNN.. of promise NN: each has a new run x,
 * and all of a class are found and run, so that none is forgotten.
 */
abstract class Boundary {
    static final int BAD = -1000000001, NO = -1000000002, FULL = -1000000003, NONE = -1000000005,
        NOTHING = -1000000011, KIND = -1000000012, INDEX = -1000000013, SIZE = -1000000014;
    static final int STRAW = 0, COATED = 1, MAN = 2, GENERAL = 3, SENTRY = 4, LANTERN = 5;
    static final int POST = 1, WEAR = 2, DOUBT = 3, UP = 4, LOOKS = 5, FALLS = 6, FIGHTS = 7, WORTH = 8;
    static final int SIGHT = 0, RAIN = 1, COURAGE = 2, FORCE = 3;
    static final int MIN = Integer.MIN_VALUE, MAX = Integer.MAX_VALUE;

    static Run x;

    /** Each test of the class, by its name; each promise from first to last must have one at least. */
    static void runAll(Class<? extends Boundary> tests, int first, int last) throws Exception {
        Method[] all = tests.getDeclaredMethods();
        Arrays.sort(all, Comparator.comparing(Method::getName));
        TreeSet<Integer> promises = new TreeSet<>();
        int many = 0;
        for (Method m : all) {
            if (Modifier.isStatic(m.getModifiers()) && m.getName().matches("p\\d\\d.+")) {
                x = new Run(m.getName());
                m.invoke(null);
                promises.add(Integer.parseInt(m.getName().substring(1, 3)));
                many++;
            }
        }
        for (int promise = first; promise <= last; promise++) {
            Checks.holds("promise " + promise + " has a test of its boundary cases", promises.contains(promise));
        }
        System.out.println(many + " boundary cases");
        Checks.end();
    }

    /** Each of these values as one argument, the others as they are, is refused with the same answer. */
    static void refusedWith(int want, int[] values, String name, int which, int... of) {
        for (int v : values) {
            int[] row = of.clone();
            row[which] = v;
            x.refused(want, name, row);
        }
    }

    /** Just below, just above, and as far outside as can be. */
    static int[] outside(int least, int most) {
        return new int[] {least - 1, most + 1, MIN, MAX, NONE};
    }

    static String many(String s, int n) {
        return s.repeat(n);
    }

    /**
     * Something of everything, so that a change is seen wherever it is: GUARDS 0 to 6 (of all KINDS, one
     * not UP), three TEXTS, an IMAGE that is another border, SHEETS 0 (three shorts), 1 (three floats, one
     * NO NUMBER), 2 (MISSING), 3 (floats, no places), SLOTS 0 (nothing), 1 (GUARD 3), 2 (SHEET 1),
     * 3 (a number), 4 (SHEET 0), numbers that wait (two right ones, a wrong one), and a TEXT on THE TAPE.
     */
    static void furnish() {
        x.call("seed", 4711);
        for (int kind = 0; kind < 6; kind++) {
            x.call("guard", kind, 3 * kind, 10 + 11 * kind);
        }
        x.call("rule", SIGHT, 5);
        x.call("rule", RAIN, 60);
        x.call("rule", COURAGE, 300);
        x.call("rule", FORCE, 10);
        x.call("nights", 4);
        x.text("look 80-w/2+p");
        x.text("fee h*10+l+7");
        Run image = x.again();
        image.call("nights", 1);
        x.call("keep");
        x.call("nights", 3);
        x.text("fine w+d+5");
        x.call("guard", STRAW, 19, 7);
        x.call("set", 0, DOUBT, 33);
        x.call("set", 1, UP, 0);
        x.sheet(0, 0, 7, -8, 9);
        x.sheet(1, 1, 70000, NONE, 30);
        x.sheet(3, 1);
        x.call("lay", 1, 1, 3);
        x.call("lay", 2, 2, 1);
        x.call("lay", 3, 3, -1234567);
        x.call("lay", 4, 2, 0);
        x.call("tell", image.call("border", 0));
        x.call("tell", image.call("border", 6));
        x.call("tell", -1);
        x.tape("fee 5");
    }

    private static int next(int z) {
        return z * 1103515245 + 12345;
    }

    static int drawnFrom(int z) {
        return next(z) >>> 8;
    }

    static int behind(int z, int draws) {
        int at = z;
        for (int i = 0; i < draws; i++) {
            at = next(at);
        }
        return at;
    }

    /** The z from which the next NIGHT has this wind, is looked at from this POST, and has this draw for rain. */
    static int seedOf(int wind, int post, int rain) {
        for (int z = 0; z < 100000000; z++) {
            if (drawnFrom(z) % 100 == wind && drawnFrom(behind(z, 1)) % 20 == post
                && drawnFrom(behind(z, 2)) % 100 == rain) {
                return z;
            }
        }
        throw new IllegalStateException("no such z");
    }

    static void night(int wind, int post, int rain) {
        x.call("seed", seedOf(wind, post, rain));
        x.call("nights", 1);
    }

    /** NIGHTS go by until this one. */
    static void nightsUntil(int night) {
        for (int now = x.call("count", 1); now < night; now += 100) {
            x.call("nights", Math.min(100, night - now));
        }
    }
}
