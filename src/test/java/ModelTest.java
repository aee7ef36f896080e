import java.lang.reflect.Method;
import java.util.ArrayList;
import java.util.Arrays;
import java.util.List;
import java.util.Random;

/**
 * Runs of calls, drawn from fixed seeds, on a StrawGarrison and on the Model side by side: every
 * answer must be the same, and nothing may be thrown.
 */
public final class ModelTest {
    private static final int RUNS = 1500, CALLS = 512;
    private static final int[] ODD = {Integer.MIN_VALUE, Integer.MAX_VALUE, -1000000005, -1, 99999, -99999, 100000, -100000,
        32768, -32769, 65535, 1000, 100, 99, 61, 60, 31, 30, 25, 24, 20, 19, 10, 5, 4};
    private static final String[] BITS = {"look", "fee", "fine", "w", "d", "p", "h", "l", "(", ")", "!", "|", "&", "<",
        "=", ">", "+", "-", "*", "/", " ", "  ", "0", "7", "12", "345", "9999", "00012", "x", "ww", "\u00e9", "\u0000", "A"};

    private final Random random;
    private final StrawGarrison own = new StrawGarrison();
    private final Model model = new Model();
    private final List<String> calls = new ArrayList<>();

    private ModelTest(long seed) {
        random = new Random(seed);
    }

    private static Method of(Class<?> type, Method like) throws Exception {
        return type.getMethod(like.getName(), like.getParameterTypes());
    }

    private boolean call(String name, int... arguments) throws Exception {
        for (Method m : StrawGarrison.class.getDeclaredMethods()) {
            if (m.getName().equals(name) && m.getParameterCount() == arguments.length) {
                Object[] boxed = Arrays.stream(arguments).boxed().toArray();
                int want = (Integer) of(Model.class, m).invoke(model, boxed);
                int got = (Integer) m.invoke(own, boxed);
                calls.add(name + Arrays.toString(arguments) + " = " + got);
                if (want != got) {
                    Checks.due(String.join("\n", calls), want, got);
                    return false;
                }
                return true;
            }
        }
        throw new IllegalStateException(name);
    }

    private int upTo(int most) {
        return random.nextInt(20) == 0 ? ODD[random.nextInt(ODD.length)] : random.nextInt(most + 2) - random.nextInt(20) / 19;
    }

    private String expression(int key, int depth) {
        String names = key == 0 ? "wdp" : key == 1 ? "hl" : "wd";
        int sort = random.nextInt(depth > 3 ? 2 : 9);
        if (sort == 0) {
            return String.valueOf(names.charAt(random.nextInt(names.length())));
        }
        if (sort == 1) {
            return String.valueOf(random.nextInt(random.nextBoolean() ? 100 : 10000));
        }
        if (sort == 2) {
            return "!" + expression(key, depth + 1);
        }
        if (sort == 3) {
            return "(" + expression(key, depth + 1) + ")";
        }
        String sign = String.valueOf("|&<=>+-*/".charAt(random.nextInt(9)));
        String blank = random.nextInt(4) == 0 ? " " : "";
        return expression(key, depth + 1) + blank + sign + blank + expression(key, depth + 1);
    }

    private String tape() {
        StringBuilder s = new StringBuilder();
        if (random.nextInt(6) == 0) {
            for (int i = random.nextInt(12); i >= 0; i--) {
                s.append(BITS[random.nextInt(BITS.length)]);
            }
            return s.toString();
        }
        int key = random.nextInt(3);
        s.append(key == 0 ? "look " : key == 1 ? "fee " : "fine ").append(expression(key, random.nextInt(3)));
        if (random.nextInt(4) == 0) {
            int place = random.nextInt(s.length() + 1);
            s.replace(place, Math.min(s.length(), place + random.nextInt(2)), BITS[random.nextInt(BITS.length)]);
        }
        return s.toString();
    }

    private boolean tellText() throws Exception {
        byte[] bytes = Arrays.copyOf(tape().getBytes("ISO-8859-1"), 96);
        int length = Math.min(96, tapeLength(bytes));
        if (random.nextInt(10) > 0 && !call("trim", 0)) {
            return false;
        }
        for (int i = 0; i < length; i += 12) {
            int[] v = new int[3];
            for (int k = 0; k < 12; k++) {
                v[k / 4] = v[k / 4] << 8 | bytes[i + k] & 255;
            }
            if (!call("feed", v)) {
                return false;
            }
        }
        return (random.nextInt(10) == 0 || call("trim", length)) && call("text") && call("textTold", upTo(13), upTo(1));
    }

    private static int tapeLength(byte[] bytes) {
        int length = bytes.length;
        while (length > 0 && bytes[length - 1] == 0) {
            length--;
        }
        return length;
    }

    /** What check asks of an image is told as it is, or nearly so. */
    private boolean tellAndCheck() throws Exception {
        int n = 1 + random.nextInt(30);
        Model.World w = model.image == null ? null : model.image.copy();
        for (int i = 0; i < n && w != null && w.night < 9999; i++) {
            w.night();
            if (!call("tell", w.fallen) || !call("tell", w.doubts() + random.nextInt(60) / 59)) {
                return false;
            }
        }
        return call("check", random.nextInt(10) == 0 ? upTo(30) : n);
    }

    private boolean step() throws Exception {
        switch (random.nextInt(54)) {
            case 0: return call("guard", upTo(5), upTo(19), upTo(99));
            case 1: case 2: return call("told", upTo(9), upTo(8));
            case 3: return call("as", upTo(9), upTo(5));
            case 4: return call("turns", upTo(9), upTo(5));
            case 5: return call("set", upTo(9), 2, upTo(99));
            case 6: return call("set", upTo(9), 3, upTo(99));
            case 7: return call("set", upTo(9), 4, upTo(1));
            case 8: return call("set", upTo(9), upTo(5), upTo(99));
            case 9: return call("moves", upTo(9), upTo(19));
            case 10: return call("at", upTo(19));
            case 11: return call("rule", 0, upTo(19));
            case 12: return call("rule", 1, upTo(100));
            case 13: return call("rule", 2, random.nextInt(3) > 0 ? random.nextInt(400) : upTo(999));
            case 14: return call("rule", 3, random.nextInt(3) > 0 ? random.nextInt(50) : upTo(999));
            case 15: return random.nextInt(3) == 0 ? call("deal", upTo(10)) : call("rule", upTo(3), upTo(999));
            case 16: return call("seed", random.nextInt());
            case 17: return call("seen", upTo(19));
            case 18: case 19: case 20: return call("nights", random.nextBoolean() ? 1 : upTo(100));
            case 21: case 22: case 23: return call("border", upTo(6));
            case 24: return call("covers", upTo(9), upTo(1));
            case 25: return call("fewest");
            case 26: case 27: return call("behind", random.nextInt(3) == 0 ? upTo(100) : upTo(9), upTo(13));
            case 28: return call("bluff");
            case 29: return call("washed", random.nextInt(3) == 0 ? upTo(60) : upTo(9), upTo(1));
            case 30: return call("needed", random.nextInt(3) == 0 ? upTo(60) : upTo(9));
            case 31: return call("becomes", upTo(9), random.nextInt(3) == 0 ? upTo(60) : upTo(9), upTo(1));
            case 32: return call("like", upTo(3), upTo(1));
            case 33: return call("fee");
            case 34: return call("fine", upTo(9));
            case 35: case 36: return tellText();
            case 37: return call("trim", upTo(96));
            case 38: return call("why", upTo(2));
            case 39: return call("sheet", upTo(3), upTo(1) - random.nextInt(8) / 7, upTo(24));
            case 40: return call("mark", upTo(3), upTo(24), upTo(99));
            case 41: return call("mark", upTo(3), upTo(24), random.nextInt(3) == 0 ? Model.NONE : random.nextInt(400000) - 200000);
            case 42: return call("mark", upTo(3), random.nextInt(10), model.g(random.nextInt(10)) == null ? 0 : upTo(19));
            case 43: return call("pour", upTo(3));
            case 44: return call("reads", upTo(3));
            case 45: return call("copy", upTo(3), upTo(8), upTo(3), upTo(8), upTo(9));
            case 46: return call("lay", upTo(4), upTo(3), upTo(9));
            case 47: return call("ask", upTo(4), upTo(5));
            case 48: return call("item", upTo(4), upTo(20));
            case 49: return call("rest", upTo(4), random.nextBoolean() ? upTo(9) : random.nextInt());
            case 50: return random.nextInt(4) == 0 ? call("tell", upTo(99)) : tellAndCheck();
            case 51: return random.nextInt(3) == 0 ? call("keep") : call("check", upTo(30));
            case 52: return random.nextInt(3) > 0 || call("back");
            default: return call("count", upTo(9));
        }
    }

    private void run() throws Exception {
        if (random.nextBoolean()) {
            call("deal", 1 + random.nextInt(10));
        }
        boolean same = true;
        while (same && calls.size() < CALLS - 70) {
            same = step();
        }
        if (same) {
            Checks.holds("a run is the same on both", true);
        }
    }

    public static void main(String[] args) throws Exception {
        for (int i = 0; i < RUNS; i++) {
            new ModelTest(i).run();
        }
        Checks.end();
    }
}
