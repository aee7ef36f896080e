import java.lang.reflect.Method;
import java.nio.charset.StandardCharsets;
import java.util.ArrayList;
import java.util.HashMap;
import java.util.LinkedHashMap;
import java.util.List;
import java.util.Map;

/**
 * A run of calls on one object. The calls are kept, so that they can be done over on another object:
 * there all that an object holds can be looked at, down to what SLOTS and THE IMAGE hold, by calls that
 * themselves change it.
 */
final class Run {
    private static final int MOST_CALLS = 512, NONE = -1000000005;
    private static final Map<String, Method> FACE = new HashMap<>();

    static {
        for (Method m : StrawGarrison.class.getMethods()) {
            if (m.getDeclaringClass() == StrawGarrison.class) {
                FACE.put(m.getName(), m);
            }
        }
    }

    private final String title;
    private final StrawGarrison own = new StrawGarrison();
    private final List<String> names = new ArrayList<>();
    private final List<int[]> arguments = new ArrayList<>();

    Run(String title) {
        this.title = title;
    }

    private static String told(String name, int... of) {
        StringBuilder s = new StringBuilder(name).append('(');
        for (int i = 0; i < of.length; i++) {
            s.append(i == 0 ? "" : ", ").append(of[i]);
        }
        return s.append(')').toString();
    }

    int call(String name, int... of) {
        names.add(name);
        arguments.add(of);
        if (names.size() > MOST_CALLS) {
            throw new IllegalStateException(title + ": an object is used for 512 calls at most");
        }
        Object[] boxed = new Object[of.length];
        for (int i = 0; i < of.length; i++) {
            boxed[i] = of[i];
        }
        try {
            return (Integer) FACE.get(name).invoke(own, boxed);
        } catch (ReflectiveOperationException e) {
            throw new IllegalStateException(title + ": " + told(name, of), e);
        }
    }

    void due(int want, String name, int... of) {
        Checks.due(title + ": " + told(name, of), want, call(name, of));
    }

    /** The same calls on a new object. */
    Run again() {
        Run other = new Run(title);
        for (int i = 0; i < names.size(); i++) {
            other.call(names.get(i), arguments.get(i));
        }
        return other;
    }

    /** A call that is refused: what it answers, and that all is as it was. The object itself is spared it. */
    void refused(int want, String name, int... of) {
        changesNothing(want, name, of);
    }

    /** A call that only asks: what it answers, and that all is as it was. The object itself is spared it. */
    void asked(int want, String name, int... of) {
        changesNothing(want, name, of);
    }

    /** Such a call answers the same again; all is as it was behind both. */
    private void changesNothing(int want, String name, int... of) {
        Run other = again();
        other.due(want, name, of);
        other.due(want, name, of);
        sameBut("nothing", other, name, of);
    }

    /** A call behind which all is as it was, but for what one part tells. The object itself is spared it. */
    void changesOnly(String part, int want, String name, int... of) {
        Run other = again();
        other.due(want, name, of);
        sameBut(part, other, name, of);
    }

    private void sameBut(String part, Run other, String name, int... of) {
        Map<String, Integer> before = state();
        Map<String, Integer> after = other.state();
        for (String label : before.keySet()) {
            if (!label.startsWith(part)) {
                Checks.due(title + ": behind " + told(name, of) + " " + label, before.get(label), after.get(label));
            }
        }
    }

    /** All that can be told of the object, each number with its label. */
    private Map<String, Integer> state() {
        Map<String, Integer> all = new LinkedHashMap<>();
        again().lookAtBorder("", all);
        again().lookAtThings(all);
        again().lookAtTape(all);
        again().lookAtWaiting(all);
        Run image = again();
        image.look("", all, "back");
        image.lookAtBorder("IMAGE ", all);
        return all;
    }

    private void look(String part, Map<String, Integer> all, String name, int... of) {
        all.put(part + told(name, of), call(name, of));
    }

    private void lookAtBorder(String part, Map<String, Integer> all) {
        for (int what = 0; what < 10; what++) {
            if (what < 7 || what == 9) {
                look(part, all, "count", what);
            }
        }
        for (int what = 0; what < 7; what++) {
            look(part, all, "border", what);
        }
        for (int g = 0; g < 10; g++) {
            for (int what = 0; what < 6; what++) {
                look(part, all, "told", g, what);
            }
            look(part, all, "fine", g);
        }
        for (int post = 0; post < 20; post++) {
            look(part, all, "at", post);
        }
        for (int text = 0; text < 14; text++) {
            look(part, all, "textTold", text, 0);
            look(part, all, "textTold", text, 1);
        }
        for (int key = 0; key < 3; key++) {
            look(part, all, "why", key);
        }
        look(part, all, "fee");
    }

    /** SLOTS first, because SHEETS are looked at through one of them. */
    private void lookAtThings(Map<String, Integer> all) {
        for (int slot = 0; slot < 5; slot++) {
            for (int kind = 0; kind < 6; kind++) {
                look("SLOT ", all, "ask", slot, kind);
            }
            for (int place = 0; place <= 24; place++) {
                look("SLOT ", all, "item", slot, place);
            }
            look("SLOT ", all, "rest", slot, Integer.MIN_VALUE);
            look("SLOT ", all, "lay", slot, 0, 0);
        }
        for (int sheet = 0; sheet < 4; sheet++) {
            for (int other = 0; other < sheet; other++) {
                look("SHEET ", all, "copy", sheet, 0, other, 0, 0);
            }
            call("lay", 0, 2, sheet);
            for (int place = 0; place <= 24; place++) {
                all.put("SHEET " + sheet + ", " + place, call("item", 0, place));
            }
            call("lay", 0, 0, 0);
            look("SHEET ", all, "mark", sheet, 0, NONE);
        }
    }

    private void lookAtTape(Map<String, Integer> all) {
        look("TAPE ", all, "count", 8);
        look("TAPE ", all, "text");
        look("TAPE ", all, "count", 6);
        look("TAPE ", all, "fee");
        look("TAPE ", all, "fine", 0);
        look("TAPE ", all, "told", 0, 5);
    }

    /** Without AN IMAGE, numbers are looked at by one that is kept now. */
    private void lookAtWaiting(Map<String, Integer> all) {
        look("numbers ", all, "count", 7);
        if (call("back") < 0) {
            call("keep");
        }
        look("numbers ", all, "check", 30);
    }

    /** THE TAPE holds these bytes and no more. */
    void tape(String s) {
        call("trim", 0);
        byte[] bytes = s.getBytes(StandardCharsets.ISO_8859_1);
        for (int i = 0; i < bytes.length; i += 12) {
            int[] v = new int[3];
            for (int k = 0; k < 12; k++) {
                v[k / 4] = v[k / 4] << 8 | (i + k < bytes.length ? bytes[i + k] & 255 : 32);
            }
            call("feed", v);
        }
        call("trim", bytes.length);
    }

    int text(String s) {
        tape(s);
        return call("text");
    }

    void sheet(int sheet, int sort, int... places) {
        call("sheet", sheet, sort, places.length);
        for (int i = 0; i < places.length; i++) {
            call("mark", sheet, i, places[i]);
        }
    }

    /** What a place of a SHEET is; looked at on another object. */
    void place(int want, int sheet, int place) {
        Run other = again();
        other.call("lay", 0, 2, sheet);
        Checks.due(title + ": place " + place + " of SHEET " + sheet, want, other.call("item", 0, place));
    }
}
