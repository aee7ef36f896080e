import java.nio.charset.StandardCharsets;

/** Each promise of the document by itself: ordinary inputs, the edges it names, wrong inputs. */
public final class PromiseTest {
    private static final int BAD = -1000000001, NO = -1000000002, FULL = -1000000003, NONE = -1000000005,
        NOTHING = -1000000011, KIND = -1000000012, INDEX = -1000000013, SIZE = -1000000014;
    private static final int STRAW = 0, COATED = 1, MAN = 2, GENERAL = 3, SENTRY = 4, LANTERN = 5;
    private static final int POST = 1, WEAR = 2, DOUBT = 3, UP = 4, LOOKS = 5, FALLS = 6, FIGHTS = 7, WORTH = 8;
    private static final int DRY = 99, WET = 0;
    private static final int[] OUTSIDE = {Integer.MIN_VALUE, NONE, -1, Integer.MAX_VALUE};

    private static StrawGarrison x;
    private static String promise;

    private static void due(String call, long want, long got) {
        Checks.due(promise + ": " + call, want, got);
    }

    private static void begin(String of) {
        promise = of;
        x = new StrawGarrison();
    }

    private static int next(int z) {
        return z * 1103515245 + 12345;
    }

    private static int draw(int z) {
        return z >>> 8;
    }

    /** The z from which the next NIGHT has this wind, is looked at from this POST, and has this draw for rain. */
    private static int seedOf(int wind, int post, int rain) {
        for (int z = 0; z < 100000000; z++) {
            int a = next(z);
            int b = next(a);
            int c = next(b);
            if (draw(a) % 100 == wind && draw(b) % 20 == post && draw(c) % 100 == rain) {
                return z;
            }
        }
        throw new IllegalStateException("no such z");
    }

    private static void night(int wind, int post, int rain) {
        x.seed(seedOf(wind, post, rain));
        x.nights(1);
    }

    private static void feed(String s) {
        x.trim(0);
        byte[] bytes = s.getBytes(StandardCharsets.ISO_8859_1);
        for (int i = 0; i < bytes.length; i += 12) {
            int[] v = new int[3];
            for (int k = 0; k < 12; k++) {
                v[k / 4] = v[k / 4] << 8 | (i + k < bytes.length ? bytes[i + k] & 255 : 32);
            }
            x.feed(v[0], v[1], v[2]);
        }
        x.trim(bytes.length);
    }

    private static int text(String s) {
        feed(s);
        return x.text();
    }

    private static void sheetOf(int sheet, int sort, int... places) {
        x.sheet(sheet, sort, places.length);
        for (int i = 0; i < places.length; i++) {
            x.mark(sheet, i, places[i]);
        }
    }

    private static String many(String s, int n) {
        return s.repeat(n);
    }

    private static void p01() {
        begin("1 a new object");
        int[] counts = {0, 0, 3, 30, 200, 20, 0, 0, 0, 1};
        for (int i = 0; i < counts.length; i++) {
            due("count(" + i + ")", counts[i], x.count(i));
        }
        for (int i = 0; i < 7; i++) {
            due("border(" + i + ")", 0, x.border(i));
        }
        for (int post = 0; post < 20; post++) {
            due("at", NONE, x.at(post));
        }
        for (int i = 0; i < 4; i++) {
            due("reads", NOTHING, x.reads(i));
        }
        for (int i = 0; i < 5; i++) {
            due("lay", 0, x.lay(i, 0, 0));
        }
        due("back", NO, x.back());
        due("why", NONE, x.why(0));
        x.deal(10);
        due("another object has none of it", 0, new StrawGarrison().count(0));
    }

    private static void p02() {
        begin("2 guard");
        due("guard", 0, x.guard(5, 19, 99));
        due("guard", 1, x.guard(0, 0, 0));
        due("KIND", 5, x.told(0, 0));
        due("POST", 19, x.told(0, POST));
        due("WEAR", 99, x.told(0, WEAR));
        due("DOUBT", 0, x.told(0, DOUBT));
        due("UP", 1, x.told(0, UP));
        for (int v : OUTSIDE) {
            due("kind", BAD, x.guard(v, 1, 1));
            due("post", BAD, x.guard(1, v, 1));
            due("wear", BAD, x.guard(1, 1, v));
        }
        due("kind 6", BAD, x.guard(6, 1, 1));
        due("post 20", BAD, x.guard(1, 20, 1));
        due("wear 100", BAD, x.guard(1, 1, 100));
        due("somebody's", NO, x.guard(1, 19, 1));
        due("BAD first", BAD, x.guard(6, 19, 1));
        due("nothing has changed", 2, x.count(0));
        for (int i = 2; i < 10; i++) {
            due("guard", i, x.guard(0, i, 0));
        }
        due("FULL", FULL, x.guard(0, 18, 0));
        due("NO ahead of FULL", NO, x.guard(0, 19, 0));
        due("BAD ahead of FULL", BAD, x.guard(0, 18, 100));
        due("how many", 10, x.count(0));
    }

    private static void p03() {
        begin("3 told");
        int[][] rows = {{STRAW, 0, 60, 0, 0, 0}, {STRAW, 99, 11, 49, 0, 99}, {STRAW, 1, 60, 0, 0, 1},
            {COATED, 0, 72, 4, 0, 5}, {COATED, 99, 23, 53, 0, 104}, {MAN, 0, 99, 0, 10, 99}, {MAN, 99, 99, 0, 10, 0},
            {GENERAL, 0, 144, 4, 0, 10}, {GENERAL, 99, 46, 53, 0, 208}, {SENTRY, 0, 99, 0, 15, 92},
            {SENTRY, 99, 99, 0, 15, -7}, {LANTERN, 0, 60, 0, 0, 8}, {LANTERN, 99, 11, 98, 0, 8}};
        for (int[] row : rows) {
            begin("3 told of KIND " + row[0] + ", WEAR " + row[1]);
            x.guard(row[0], 7, row[1]);
            due("KIND", row[0], x.told(0, 0));
            due("POST", 7, x.told(0, POST));
            due("WEAR", row[1], x.told(0, WEAR));
            due("LOOKS", row[2], x.told(0, LOOKS));
            due("FALLS", row[3], x.told(0, FALLS));
            due("FIGHTS", row[4], x.told(0, FIGHTS));
            due("WORTH", row[5], x.told(0, WORTH));
        }
        x.set(0, DOUBT, 17);
        x.set(0, UP, 0);
        due("DOUBT", 17, x.told(0, DOUBT));
        due("UP", 0, x.told(0, UP));
        for (int v : new int[] {-1, 9, Integer.MIN_VALUE, Integer.MAX_VALUE}) {
            due("what", BAD, x.told(0, v));
        }
        due("guard", BAD, x.told(1, 0));
        due("guard", BAD, x.told(-1, 0));
        x.rule(1, 0);
        x.nights(1);
        due("a LANTERN by an odd NIGHT", 31, x.told(0, LOOKS));
        x.nights(1);
        due("a LANTERN by an even NIGHT", 11, x.told(0, LOOKS));
        x.nights(1);
        due("a LANTERN by an odd NIGHT again", 31, x.told(0, LOOKS));
    }

    private static void p03Texts() {
        begin("3 told, with a TEXT");
        for (int kind = 0; kind < 6; kind++) {
            x.guard(kind, kind, 30);
        }
        text("look w*2+p");
        int[] looks = {60, 61 + 12, 99, 2 * (63 + 12), 99, 65};
        for (int g = 0; g < 6; g++) {
            due("LOOKS", looks[g], x.told(g, LOOKS));
        }
        text("look 9999");
        int[] most = {99, 111, 99, 222, 99, 99};
        for (int g = 0; g < 6; g++) {
            due("LOOKS at most", most[g], x.told(g, LOOKS));
        }
        text("look d - 1");
        int[] least = {0, 12, 99, 24, 99, 0};
        for (int g = 0; g < 6; g++) {
            due("LOOKS at least", least[g], x.told(g, LOOKS));
        }
        x.set(0, DOUBT, 51);
        due("LOOKS of DOUBT", 50, x.told(0, LOOKS));
    }

    private static void p04() {
        begin("4 as");
        int[][] above = {{STRAW}, {STRAW, COATED}, {STRAW, MAN}, {STRAW, COATED, GENERAL}, {STRAW, MAN, SENTRY},
            {STRAW, LANTERN}};
        for (int kind = 0; kind < 6; kind++) {
            x.guard(kind, kind, 40 + kind);
            for (int other = 0; other < 6; other++) {
                boolean is = false;
                for (int one : above[kind]) {
                    is |= one == other;
                }
                due("as(" + kind + ", " + other + ")", is ? 40 + kind : KIND, x.as(kind, other));
            }
        }
        due("guard", BAD, x.as(6, 0));
        due("guard", BAD, x.as(-1, 0));
        due("kind", BAD, x.as(0, 6));
        due("kind", BAD, x.as(0, -1));
    }

    private static void p05() {
        begin("5 turns");
        x.guard(STRAW, 4, 20);
        x.set(0, DOUBT, 30);
        x.set(0, UP, 0);
        due("turns", STRAW, x.turns(0, MAN));
        due("turns", MAN, x.turns(0, GENERAL));
        due("KIND", GENERAL, x.told(0, 0));
        due("POST", 4, x.told(0, POST));
        due("WEAR", 20, x.told(0, WEAR));
        due("DOUBT", 30, x.told(0, DOUBT));
        due("UP", 0, x.told(0, UP));
        due("LOOKS", 124, x.told(0, LOOKS));
        due("kind", BAD, x.turns(0, 6));
        due("kind", BAD, x.turns(0, -1));
        due("guard", BAD, x.turns(1, 0));
        due("guard", BAD, x.turns(-1, 0));
        due("as it was", GENERAL, x.told(0, 0));
    }

    private static void p06() {
        begin("6 set");
        x.guard(STRAW, 4, 20);
        due("WEAR", 20, x.set(0, 2, 99));
        due("WEAR", 99, x.set(0, 2, 0));
        due("DOUBT", 0, x.set(0, 3, 99));
        due("DOUBT", 99, x.set(0, 3, 0));
        due("UP", 1, x.set(0, 4, 0));
        due("UP", 0, x.set(0, 4, 1));
        for (int what = 2; what <= 4; what++) {
            due("too much", BAD, x.set(0, what, what == 4 ? 2 : 100));
            due("below 0", BAD, x.set(0, what, -1));
            due("guard", BAD, x.set(1, what, 0));
        }
        due("what", BAD, x.set(0, 1, 0));
        due("what", BAD, x.set(0, 5, 0));
        due("what", BAD, x.set(0, 0, 0));
        due("guard", BAD, x.set(-1, 2, 0));
        due("WEAR stays", 0, x.told(0, WEAR));
        due("DOUBT stays", 0, x.told(0, DOUBT));
        due("UP stays", 1, x.told(0, UP));
    }

    private static void p07() {
        begin("7 moves");
        x.guard(STRAW, 4, 20);
        x.guard(STRAW, 6, 20);
        due("moves", 4, x.moves(0, 19));
        due("moves", 19, x.moves(0, 0));
        due("POST", 0, x.told(0, POST));
        due("somebody's", NO, x.moves(0, 6));
        due("its own", NO, x.moves(0, 0));
        due("post", BAD, x.moves(0, 20));
        due("post", BAD, x.moves(0, -1));
        due("guard", BAD, x.moves(2, 6));
        due("guard", BAD, x.moves(-1, 6));
        due("POST stays", 0, x.told(0, POST));
    }

    private static void p08() {
        begin("8 at");
        x.guard(STRAW, 0, 20);
        x.guard(STRAW, 19, 20);
        due("at(0)", 0, x.at(0));
        due("at(19)", 1, x.at(19));
        due("at(1)", NONE, x.at(1));
        due("at(20)", BAD, x.at(20));
        due("at(-1)", BAD, x.at(-1));
        x.moves(1, 1);
        due("at(1)", 1, x.at(1));
        due("at(19)", NONE, x.at(19));
    }

    private static void p09() {
        begin("9 rule");
        int[] was = {3, 30, 200, 20};
        int[] most = {19, 100, 999, 999};
        for (int what = 0; what < 4; what++) {
            due("rule", was[what], x.rule(what, 0));
            due("rule", 0, x.rule(what, most[what]));
            due("too much", BAD, x.rule(what, most[what] + 1));
            due("below 0", BAD, x.rule(what, -1));
            due("count", most[what], x.count(2 + what));
        }
        due("what", BAD, x.rule(4, 0));
        due("what", BAD, x.rule(-1, 0));
    }

    private static void p10() {
        begin("10 deal");
        for (int seed = 0; seed < 40; seed++) {
            x = new StrawGarrison();
            x.seed(seed);
            x.guard(STRAW, 19, 5);
            due("deal", 9, x.deal(seed % 2 == 0 ? 9 : 10));
            int z = seed;
            boolean[] taken = new boolean[20];
            taken[19] = true;
            for (int g = 1; g < 10; g++) {
                z = next(z);
                due("KIND", draw(z) % 6, x.told(g, 0));
                z = next(z);
                int post = draw(z) % 20;
                while (taken[post]) {
                    post = (post + 1) % 20;
                }
                taken[post] = true;
                due("POST", post, x.told(g, POST));
                z = next(z);
                due("WEAR", draw(z) % 60, x.told(g, WEAR));
                due("UP", 1, x.told(g, UP));
                due("DOUBT", 0, x.told(g, DOUBT));
            }
            due("z", z, x.count(9));
            due("no room", 0, x.deal(1));
            due("no draws", z, x.count(9));
        }
        due("deal(0)", BAD, x.deal(0));
        due("deal(11)", BAD, x.deal(11));
        due("deal(-1)", BAD, x.deal(-1));
    }

    private static void p11() {
        begin("11 seed");
        due("seed", 1, x.seed(Integer.MIN_VALUE));
        due("seed", Integer.MIN_VALUE, x.seed(-1));
        due("seed", -1, x.seed(BAD));
        due("z", BAD, x.count(9));
        x.seed(9);
        x.nights(2);
        due("three draws a NIGHT", next(next(next(next(next(next(9)))))), x.count(9));
    }

    private static void p12() {
        begin("12 seen");
        x.guard(STRAW, 0, 0);
        x.guard(MAN, 4, 0);
        x.guard(STRAW, 19, 0);
        due("seen(0)", 1, x.seen(0));
        due("seen(1)", 3, x.seen(1));
        due("seen(7)", 2, x.seen(7));
        due("seen(8)", 0, x.seen(8));
        due("seen(16)", 4, x.seen(16));
        due("seen(15)", 0, x.seen(15));
        x.rule(0, 0);
        due("seen(4)", 2, x.seen(4));
        due("seen(5)", 0, x.seen(5));
        x.rule(0, 19);
        due("seen(19)", 7, x.seen(19));
        x.set(0, UP, 0);
        due("those that are not UP, too", 7, x.seen(19));
        due("seen(20)", BAD, x.seen(20));
        due("seen(-1)", BAD, x.seen(-1));
    }

    private static void p13Wind() {
        begin("13 nights (1)");
        x.guard(STRAW, 0, 41);
        x.guard(COATED, 4, 33);
        x.guard(LANTERN, 8, 21);
        x.rule(0, 0);
        night(20, 19, DRY);
        due("FALLS are not above the wind", 0, x.border(5));
        night(19, 19, DRY);
        due("FALLS are above the wind", 7, x.border(5));
        due("FALLEN", 3, x.border(0));
        night(0, 19, DRY);
        due("who is not UP doesn't fall", 3, x.border(0));
        x.guard(MAN, 15, 99);
        x.guard(SENTRY, 16, 99);
        night(0, 19, DRY);
        due("who LIVES doesn't fall", 7, x.border(5));
    }

    private static void p13Up() {
        begin("13 nights (2)");
        x.guard(STRAW, 5, 0);
        x.guard(STRAW, 4, 0);
        x.guard(STRAW, 9, 0);
        x.guard(MAN, 7, 0);
        x.guard(STRAW, 10, 0);
        for (int g = 0; g < 5; g++) {
            x.set(g, UP, g == 3 ? 1 : 0);
        }
        x.rule(0, 0);
        night(50, 19, DRY);
        due("the first that is NEAR", 1 << 1 | 1 << 2 | 1 << 4, x.border(5));
        night(50, 19, DRY);
        due("the next one", 1 << 1 | 1 << 4, x.border(5));
        night(50, 19, DRY);
        due("three apart is not NEAR", 1 << 1 | 1 << 4, x.border(5));
        x.set(0, UP, 0);
        x.set(3, UP, 0);
        night(50, 19, DRY);
        due("who is not UP sets up none", 31 - 4, x.border(5));
        begin("13 nights (2), one behind the other");
        x.guard(SENTRY, 0, 0);
        x.guard(MAN, 2, 0);
        x.guard(STRAW, 4, 0);
        x.set(1, UP, 0);
        x.set(2, UP, 0);
        x.rule(0, 0);
        night(50, 19, DRY);
        due("who is set up sets up", 0, x.border(5));
        begin("13 nights (1), (2)");
        x.guard(STRAW, 0, 99);
        x.guard(MAN, 2, 0);
        night(0, 10, DRY);
        due("up again in the same NIGHT", 0, x.border(5));
        due("FALLEN", 1, x.border(0));
    }

    private static void p13Doubt() {
        begin("13 nights (3)");
        x.guard(STRAW, 5, 40);
        x.guard(STRAW, 6, 42);
        x.guard(MAN, 7, 0);
        x.guard(STRAW, 11, 0);
        x.guard(STRAW, 2, 0);
        x.guard(STRAW, 1, 42);
        for (int g = 0; g < 6; g++) {
            x.set(g, DOUBT, 10);
        }
        x.set(3, UP, 0);
        x.rule(0, 3);
        night(99, 5, DRY);
        int[] once = {7, 19, 7, 10, 7, 10};
        for (int g = 0; g < 6; g++) {
            due("DOUBT of " + g, once[g], x.told(g, DOUBT));
        }
        night(99, 8, DRY);
        int[] twice = {4, 28, 4, 30, 7, 10};
        for (int g = 0; g < 6; g++) {
            due("DOUBT of " + g, twice[g], x.told(g, DOUBT));
        }
        x.set(0, DOUBT, 2);
        x.set(1, DOUBT, 91);
        x.set(3, DOUBT, 80);
        night(99, 8, DRY);
        due("0 at least", 0, x.told(0, DOUBT));
        due("99 at most", 99, x.told(1, DOUBT));
        due("99 at most, not UP", 99, x.told(3, DOUBT));
    }

    private static void p13Rain() {
        begin("13 nights (4)");
        for (int kind = 0; kind < 6; kind++) {
            x.guard(kind, kind, 10);
        }
        x.guard(STRAW, 10, 97);
        x.rule(1, 30);
        night(99, 19, 30);
        due("no rain", 10, x.told(0, WEAR));
        night(99, 19, 29);
        int[] wear = {13, 13, 10, 13, 10, 13, 99};
        for (int g = 0; g < 7; g++) {
            due("WEAR of " + g, wear[g], x.told(g, WEAR));
        }
        x.rule(1, 0);
        night(99, 19, WET);
        due("RAIN 0", 13, x.told(0, WEAR));
        x.rule(1, 100);
        night(99, 19, DRY);
        due("RAIN 100", 16, x.told(0, WEAR));
        due("99 at most", 99, x.told(6, WEAR));
        x.set(0, UP, 0);
        x.moves(2, 18);
        x.moves(4, 17);
        night(99, 19, DRY);
        due("who is not UP wears, too", 19, x.told(0, WEAR));
    }

    private static void p13Raid() {
        begin("13 nights (5)");
        x.guard(MAN, 5, 0);
        x.rule(2, 99);
        due("not below COURAGE", 0, x.nights(5));
        x.rule(2, 100);
        due("below COURAGE", 5, x.nights(5));
        due("LOST", 5, x.border(2));
        x.rule(3, 10);
        due("STRENGTH as FORCE", 3, x.nights(3));
        due("HELD", 3, x.border(1));
        due("LOST", 5, x.border(2));
        x.rule(3, 11);
        due("STRENGTH below FORCE", 100, x.nights(100));
        due("HELD", 3, x.border(1));
        due("LOST", 105, x.border(2));
        due("THE NIGHT", 113, x.count(1));
        begin("13 nights, what is COUNTED is what it is behind the NIGHT's rain");
        x.guard(STRAW, 5, 0);
        x.rule(2, 60);
        x.rule(1, 1);
        x.seed(seedOf(50, 19, WET));
        due("rain", 1, x.nights(1));
    }

    private static void p13() {
        begin("13 nights");
        due("nights(0)", BAD, x.nights(0));
        due("nights(101)", BAD, x.nights(101));
        due("nights(-1)", BAD, x.nights(-1));
        for (int i = 0; i < 99; i++) {
            due("nights(100)", 100, x.nights(100));
        }
        due("THE NIGHT", 9900, x.count(1));
        due("nights(98)", 98, x.nights(98));
        due("no more than up to 9999", 1, x.nights(100));
        due("THE NIGHT", 9999, x.count(1));
        int z = x.count(9);
        due("none", 0, x.nights(100));
        due("no draws", z, x.count(9));
        due("LOST", 9999, x.border(2));
        due("thoughts go on", 10099, x.behind(100, 2));
        due("thoughts go on", 1, x.bluff());
    }

    private static void p14() {
        begin("14 border");
        x.guard(MAN, 5, 0);
        x.guard(SENTRY, 6, 0);
        x.guard(GENERAL, 8, 0);
        due("COUNTED", 99 + 99 + 144, x.border(3));
        due("STRENGTH", 25, x.border(4));
        x.set(0, DOUBT, 50);
        x.set(1, DOUBT, 49);
        due("COUNTED: DOUBT below 50", 99 + 144, x.border(3));
        due("STRENGTH", 25, x.border(4));
        due("DOUBTS", 99, x.border(6));
        x.set(1, UP, 0);
        due("COUNTED: UP", 144, x.border(3));
        due("STRENGTH: UP", 10, x.border(4));
        due("not UP", 2, x.border(5));
        x.rule(2, 0);
        x.nights(1);
        x.rule(2, 999);
        x.rule(3, 0);
        x.nights(2);
        x.rule(3, 999);
        x.nights(3);
        due("HELD", 2, x.border(1));
        due("LOST", 3, x.border(2));
        due("what", BAD, x.border(7));
        due("what", BAD, x.border(-1));
    }

    private static void p15() {
        begin("15 covers");
        x.guard(MAN, 10, 0);
        due("alone: the least", 0, x.covers(0, 0));
        due("alone: none", 0, x.covers(0, 1));
        x.guard(STRAW, 0, 0);
        due("the least that is nobody's", 1, x.covers(0, 0));
        due("its own is one, too", 0, x.covers(1, 0));
        due("not itself", 0, x.covers(1, 1));
        x.guard(COATED, 17, 0);
        x.guard(LANTERN, 19, 0);
        due("NEAR two", 18, x.covers(0, 0));
        due("two", 2, x.covers(0, 1));
        x.guard(MAN, 18, 0);
        due("somebody's is none", 1, x.covers(0, 1));
        due("its own", 18, x.covers(4, 0));
        due("its own: two", 2, x.covers(4, 1));
        x.set(2, UP, 0);
        due("who is not UP counts", 2, x.covers(4, 1));
        x.turns(2, SENTRY);
        due("who LIVES does not", 1, x.covers(4, 1));
        x.turns(0, GENERAL);
        x.moves(1, 11);
        due("the first one is one of the others, too", 9, x.covers(4, 0));
        due("the first one is one of the others, too", 2, x.covers(4, 1));
        due("guard", BAD, x.covers(5, 0));
        due("guard", BAD, x.covers(-1, 0));
        due("what", BAD, x.covers(0, 2));
        due("what", BAD, x.covers(0, -1));
        begin("15 covers, at the ends");
        x.guard(MAN, 9, 0);
        x.guard(STRAW, 18, 0);
        x.guard(STRAW, 19, 0);
        x.guard(MAN, 17, 0);
        x.guard(MAN, 16, 0);
        due("there is no POST 20", 0, x.covers(0, 1));
        due("there is no POST 20", 0, x.covers(0, 0));
        x.moves(2, 7);
        x.moves(1, 1);
        due("POST 0", 1, x.covers(0, 1));
        due("POST 0", 0, x.covers(0, 0));
    }

    private static void p16() {
        begin("16 fewest");
        due("none", 0, x.fewest());
        x.guard(MAN, 0, 0);
        x.guard(SENTRY, 6, 0);
        due("who LIVES needs none", 0, x.fewest());
        x.guard(STRAW, 1, 0);
        due("one", 1, x.fewest());
        x.guard(STRAW, 5, 0);
        due("four apart: one", 1, x.fewest());
        x.moves(1, 18);
        x.guard(GENERAL, 6, 0);
        due("five apart: two", 2, x.fewest());
        x.guard(LANTERN, 10, 0);
        due("two of four each", 2, x.fewest());
        x.guard(LANTERN, 19, 0);
        x.set(6, UP, 0);
        due("who is not UP, too", 3, x.fewest());
        begin("16 fewest, from POST 0 on");
        x.guard(STRAW, 0, 0);
        due("POST 0", 1, x.fewest());
        x.guard(STRAW, 4, 0);
        due("POSTS 0 and 4", 1, x.fewest());
        x.moves(1, 5);
        due("POSTS 0 and 5", 2, x.fewest());
    }

    private static void p17() {
        begin("17 behind");
        x.seed(77);
        x.deal(6);
        x.guard(LANTERN, x.at(3) == NONE ? 3 : x.at(4) == NONE ? 4 : 2, 90);
        int guards = x.count(0);
        x.set(0, DOUBT, 45);
        x.rule(0, 9);
        int z = x.count(9);
        for (int n : new int[] {0, 1, 2, 7, 100}) {
            x.seed(z);
            x.keep();
            int[] thought = new int[4 + guards];
            for (int what = 0; what < thought.length; what++) {
                thought[what] = x.behind(n, what);
            }
            due("nothing changes", z, x.count(9));
            due("nothing changes", 0, x.count(1));
            if (n > 0) {
                x.nights(n);
            }
            for (int what = 0; what < 4; what++) {
                due("behind(" + n + ", " + what + ")", x.border(what), thought[what]);
            }
            for (int k = 0; k < guards; k++) {
                due("behind(" + n + ", " + (4 + k) + ")", x.told(k, DOUBT), thought[4 + k]);
            }
            x.back();
        }
        due("n", BAD, x.behind(-1, 0));
        due("n", BAD, x.behind(101, 0));
        due("what", BAD, x.behind(0, -1));
        due("what", BAD, x.behind(0, 4 + guards));
        due("what", BAD, x.behind(0, Integer.MAX_VALUE));
    }

    private static void p18() {
        begin("18 bluff");
        due("at once", 1, x.bluff());
        x.guard(MAN, 5, 0);
        x.rule(2, 99);
        due("not by then", NONE, x.bluff());
        x.guard(STRAW, 10, 0);
        x.rule(2, 150);
        x.rule(1, 100);
        x.rule(0, 0);
        // STRAW of WEAR 3k LOOKS 60 less half of it: below 51 with WEAR 20 or more, behind the 7th NIGHT.
        int z = 0;
        for (int seed = 0; seed < 100000 && z == 0; seed++) {
            int at = seed;
            boolean calm = true;
            for (int n = 1; n <= 7; n++) {
                at = next(at);
                calm &= draw(at) % 100 >= 20;
                at = next(next(at));
            }
            z = calm ? seed : 0;
        }
        x.seed(z);
        due("by wear", 7, x.bluff());
        due("nothing changes", z, x.count(9));
        due("nothing changes", 0, x.told(1, WEAR));
        due("nights", 0, x.nights(6));
        due("next", 1, x.bluff());
        due("nights", 1, x.nights(1));
        begin("18 bluff, behind 200");
        x.guard(STRAW, 0, 0);
        x.rule(0, 0);
        x.rule(1, 0);
        x.rule(2, 1);
        // Seen six times, each time with 9 more, it is doubted: then none is COUNTED.
        text("look 1");
        x.seed(seedOfSixthSight(200));
        due("the last NIGHT", 200, x.bluff());
        x.seed(seedOfSixthSight(201));
        due("one NIGHT later", NONE, x.bluff());
        x.nights(1);
        due("one NIGHT on", 200, x.bluff());
    }

    /** The z from which watchers look from POST 0 for the sixth time in a NIGHT. */
    private static int seedOfSixthSight(int night) {
        for (int seed = 0; seed < 1000000; seed++) {
            int z = seed;
            int sights = 0;
            for (int n = 1; n <= night && sights < 6; n++) {
                z = next(next(z));
                if (draw(z) % 20 == 0) {
                    sights++;
                    if (sights == 6 && n == night) {
                        return seed;
                    }
                }
                z = next(z);
            }
        }
        throw new IllegalStateException("no such z");
    }

    private static int countedAhead(int n) {
        return x.behind(n, 3);
    }

    private static void p19() {
        begin("19 washed");
        due("no GUARDS", NONE, x.washed(1, 0));
        due("no GUARDS", NONE, x.washed(60, 1));
        due("BAD first", BAD, x.washed(0, 0));
        due("n", BAD, x.washed(61, 0));
        due("n", BAD, x.washed(-1, 0));
        due("what", BAD, x.washed(1, 2));
        due("what", BAD, x.washed(1, -1));
        x.guard(MAN, 0, 99);
        due("one", 0, x.washed(1, 0));
        due("99", 99, x.washed(1, 1));
        for (int seed = 5; seed < 45; seed += 4) {
            x = new StrawGarrison();
            x.seed(seed);
            x.deal(7);
            for (int n : new int[] {1, 3, 20, 60}) {
                int best = 0;
                int most = -1;
                for (int g = 0; g < 7; g++) {
                    int wear = x.set(g, WEAR, 0);
                    if (countedAhead(n) > most) {
                        most = countedAhead(n);
                        best = g;
                    }
                    x.set(g, WEAR, wear);
                }
                due("washed(" + n + ", 0)", best, x.washed(n, 0));
                due("washed(" + n + ", 1)", most, x.washed(n, 1));
            }
        }
    }

    private static void p20() {
        begin("20 needed");
        due("with none", NONE, x.needed(1));
        due("n", BAD, x.needed(0));
        due("n", BAD, x.needed(61));
        due("n", BAD, x.needed(-1));
        x.rule(2, 0);
        due("0", 0, x.needed(60));
        due("0", 0, x.needed(1));
        begin("20 needed, to be trusted again");
        // DOUBT 51 is 3 less if it is seen once: then it is counted.
        x.guard(MAN, 10, 0);
        x.set(0, DOUBT, 51);
        x.rule(2, 99);
        x.seed(seedOf(50, 4, 50));
        due("as far as that POST", 6, x.needed(1));
        x.seed(seedOf(50, 19, 50));
        due("as far as that POST", 9, x.needed(1));
        x.set(0, DOUBT, 53);
        due("with none", NONE, x.needed(1));
        due("SIGHT stays", 3, x.count(2));
        x.set(0, DOUBT, 51);
        x.moves(0, 0);
        due("as far as can be", 19, x.needed(1));
        for (int seed = 0; seed < 10; seed++) {
            x = new StrawGarrison();
            x.seed(seed * 31);
            x.deal(6);
            x.rule(2, x.border(3) - 60);
            for (int n : new int[] {1, 4, 9}) {
                int least = NONE;
                for (int sight = 19; sight >= 0; sight--) {
                    x.rule(0, sight);
                    int bluff = x.bluff();
                    least = bluff == NONE || bluff > n ? sight : least;
                }
                due("needed(" + n + ")", least, x.needed(n));
            }
        }
    }

    private static void p21() {
        begin("21 becomes");
        due("guard", BAD, x.becomes(0, 1, 0));
        x.guard(STRAW, 3, 10);
        due("guard", BAD, x.becomes(1, 1, 0));
        due("guard", BAD, x.becomes(-1, 1, 0));
        due("n", BAD, x.becomes(0, 0, 0));
        due("n", BAD, x.becomes(0, 61, 0));
        due("what", BAD, x.becomes(0, 1, 2));
        due("what", BAD, x.becomes(0, 1, -1));
        x.set(0, DOUBT, 99);
        due("of several the least", 0, x.becomes(0, 1, 0));
        due("none is COUNTED", 0, x.becomes(0, 1, 1));
        for (int seed = 3; seed < 40; seed += 4) {
            x = new StrawGarrison();
            x.seed(seed);
            x.deal(5);
            for (int n : new int[] {1, 2, 5, 60}) {
                int guard = (seed + n) % 5;
                int best = 0;
                int most = -1;
                int was = x.told(guard, 0);
                for (int kind = 0; kind < 6; kind++) {
                    x.turns(guard, kind);
                    if (countedAhead(n) > most) {
                        most = countedAhead(n);
                        best = kind;
                    }
                }
                x.turns(guard, was);
                due("becomes(" + n + ", 0)", best, x.becomes(guard, n, 0));
                due("becomes(" + n + ", 1)", most, x.becomes(guard, n, 1));
                due("it stays", was, x.told(guard, 0));
            }
        }
    }

    private static void p22() {
        begin("22 like");
        due("sheet", BAD, x.like(4, 0));
        due("sheet", BAD, x.like(-1, 0));
        due("what", BAD, x.like(0, 2));
        due("what", BAD, x.like(0, -1));
        due("NOTHING first", NOTHING, x.like(0, 0));
        sheetOf(0, 1, 40, NONE, 33);
        due("no GUARDS", NONE, x.like(0, 0));
        x.guard(MAN, 0, 0);
        x.guard(MAN, 9, 0);
        x.guard(MAN, 19, 0);
        x.set(0, DOUBT, 30);
        x.set(1, DOUBT, 44);
        x.set(2, DOUBT, 36);
        x.rule(0, 19);
        // All are seen each NIGHT: 3 less. Places 0 and 2: 10 + 9, 4 + 5, 4 + 3.
        due("the GUARD", 2, x.like(0, 0));
        due("together", 7, x.like(0, 1));
        x.set(2, DOUBT, 37);
        x.set(1, DOUBT, 42);
        // 2 + 3, 3 + 2.
        due("of several the least", 1, x.like(0, 0));
        due("together", 5, x.like(0, 1));
        sheetOf(1, 0);
        due("no places", 0, x.like(1, 0));
        due("no places", 0, x.like(1, 1));
        sheetOf(1, 0, -32768, 32767);
        due("far", 32768 + 30 + 32767 - 27, x.like(1, 1));
        due("nothing changes", 0, x.count(1));
        due("nothing changes", 30, x.told(0, DOUBT));
    }

    private static void p23() {
        begin("23 fee");
        due("without a TEXT", 0, x.fee());
        x.rule(3, 0);
        x.nights(7);
        due("HELD", 7, x.fee());
        x.rule(3, 999);
        x.nights(2);
        due("HELD", 7, x.fee());
        text("fee 10*h-l");
        due("by a TEXT", 68, x.fee());
        text("fee l");
        due("by the last TEXT", 2, x.fee());
        text("look 3");
        text("fine 4");
        due("by none but its own", 2, x.fee());
    }

    private static void p24() {
        begin("24 fine");
        due("no GUARD", BAD, x.fine(0));
        x.guard(STRAW, 4, 20);
        x.guard(STRAW, 5, 33);
        x.set(1, DOUBT, 12);
        due("DOUBT", 0, x.fine(0));
        due("DOUBT", 12, x.fine(1));
        text("fine w-2*d");
        due("by a TEXT", 20, x.fine(0));
        due("by a TEXT", 9, x.fine(1));
        text("fee 5");
        due("by none but its own", 9, x.fine(1));
        due("guard", BAD, x.fine(2));
        due("guard", BAD, x.fine(-1));
    }

    private static void p25() {
        begin("25 feed");
        for (int i = 1; i <= 8; i++) {
            due("feed", 12 * i, x.feed(0x20202020, 0x20202020, 0x20202020));
        }
        due("FULL", FULL, x.feed(0, 0, 0));
        due("bytes", 96, x.count(8));
        x.trim(85);
        due("FULL", FULL, x.feed(0, 0, 0));
        due("bytes", 85, x.count(8));
        x.trim(84);
        due("just", 96, x.feed(0, 0, 0));
        x.trim(0);
        due("the highest first", 12, x.feed('f' << 24 | 'e' << 16 | 'e' << 8 | ' ', '1' << 24 | '2' << 16 | '3' << 8 | '4',
            ' ' << 24 | '+' << 16 | ' ' << 8 | '7'));
        due("text", 0, x.text());
        due("fee", 1241, x.fee());
        x.feed(0x6665F665, 0, 0);
        due("bytes above 127", -100, x.text());
    }

    private static void p26() {
        begin("26 trim");
        due("trim(0)", 0, x.trim(0));
        due("trim(1)", BAD, x.trim(1));
        x.feed('f' << 24 | 'e' << 16 | 'e' << 8 | '9', '1' << 24 | '2' << 16 | '3' << 8 | '4', 0);
        due("all", 12, x.trim(12));
        due("one more", BAD, x.trim(13));
        due("below 0", BAD, x.trim(-1));
        due("bytes", 12, x.count(8));
        due("fewer", 3, x.trim(3));
        due("bytes", 3, x.count(8));
        x.feed(' ' << 24 | '7' << 16 | '7' << 8 | ' ', 0x20202020, 0x20202020);
        due("text", 0, x.text());
        due("the first ones are kept", 77, x.fee());
    }

    private static int fee(String s) {
        x.back();
        int number = text("fee " + s);
        return number < 0 ? number : x.fee();
    }

    private static void p27Values() {
        begin("27 text: what it gives");
        x.nights(3);
        x.rule(3, 0);
        x.nights(5);
        x.keep();
        Object[][] rows = {{"7", 7}, {"0009", 9}, {"9999", 9999}, {"h", 5}, {"l", 3}, {"1-2-3", -4}, {"8/2/2", 2},
            {"2+3*4", 14}, {"(2+3)*4", 20}, {"7/2", 3}, {"(0-7)/2", -3}, {"7/0", 0}, {"0/0", 0}, {"1-5/0*3+2", 3},
            {"1<2", 1}, {"2<2", 0}, {"3<2", 0}, {"2>2", 0}, {"3>2", 1}, {"2=2", 1}, {"2=3", 0}, {"1+1=4/2", 1},
            {"!0", 1}, {"!7", 0}, {"!!7", 1}, {"!0+1", 2}, {"!(0+1)", 0}, {"!(0)*5", 5}, {"!(1)+2", 2}, {"!!(0)-1", -1}, {"!0*5", 5}, {"!1<2", 1}, {"5&6", 1},
            {"5&0", 0}, {"0|0", 0}, {"0|9", 1}, {"1|1&0", 1}, {"(1|1)&0", 0}, {"0&1|1", 1}, {"0&(1|1)", 0},
            {"1<2&3<2", 0}, {"1<2|3<2", 1}, {"(1<2)<3", 1}, {"1=(2=2)", 1}, {"2&1+1", 1}, {"!h|l", 1}, {"h*10+l", 53},
            {"9999*9999*9999", 9999 * 9999 * 9999}, {"9999*9999*22+9999*9999", 9999 * 9999 * 22 + 9999 * 9999},
            {"(0-4096*4096*128)/(0-1)", Integer.MIN_VALUE}, {"2-(1-(1-(1)))", 1}, {"((((((((h))))))))", 5},
            {"!!!!!!!!l", 1}, {"!(!(!(!(!(!(!(!(0))))))))", 0}, {"((h))+((l))", 8}, {" h - l ", 2}, {"h  * 2", 10}};
        for (Object[] row : rows) {
            due("fee " + row[0], (Integer) row[1], fee((String) row[0]));
        }
    }

    private static void p27Faults() {
        begin("27 text: FAULTS");
        Object[][] rows = {{"", 0}, {"   ", 3}, {"x", 0}, {"  x", 2}, {"7", 0}, {"lo", 0}, {"lookw", 0}, {"looka", 0}, {"lookz", 0}, {"alook", 0}, {"fee0", 3}, {"fee9", 3}, {"Look w", 0}, {"fees 1", 0},
            {"look", 4}, {"look  ", 6}, {"fee1", 3}, {"fee12345", 3}, {"fee 12345", 4}, {"fee 1 2", 6}, {"fee 1h", 5},
            {"fee h1", 5}, {"fee hl", 4}, {"fee h l", 6}, {"fee w", 4}, {"fee d", 4}, {"fine h", 5}, {"fine p", 5}, {"look h", 5},
            {"look l", 5}, {"fee look", 4}, {"fee 1+", 6}, {"fee 1+ ", 7}, {"fee +1", 4}, {"fee 1++1", 6}, {"fee 1+*1", 6},
            {"fee -1", 4}, {"fee 1!", 5}, {"fee 1!=2", 5}, {"fee 1<2<3", 7}, {"fee 1<2=3", 7}, {"fee (1<2>3)", 8}, {"fee 1<=2", 6},
            {"fee (1", 6}, {"fee (1 ", 7}, {"fee ()", 5}, {"fee (1))", 7}, {"fee 1)", 5}, {"fee (1)(2)", 7}, {"fee (1)2", 7},
            {"fee 2(1)", 5}, {"fee 1 % 2", 6}, {"fee 1\u0000", 5}, {"fee 1\t+2", 5}, {"fee\n1", 3}, {"fee 1\u00e9", 5}, {"fee !", 5},
            {"fee !+", 5}, {"fee " + many("(", 9) + "1", 12}, {"fee " + many("!", 9) + "1", 12},
            {"fee " + many("(", 8), 12}, {"fee " + many("!", 8), 12}, {"fee " + many("!(", 8) + "!1", 20},
            {"fee " + many("!(", 8) + "(1", 20}, {"fee " + many("(", 8) + "1" + many(")", 9), 21},
            {"fee !(1+" + many("!", 8) + "1)", 15}, {"fee 1 & & 2", 8}, {"fee 1 | | 2", 8}, {"fee 1:2", 5}, {"fee 1^2", 5},
            {"fee `", 4}, {"fee {", 4}, {"fee /", 4}, {"fee A", 4}};
        for (Object[] row : rows) {
            due("text of " + row[0], -100 - (Integer) row[1], text((String) row[0]));
            due("it uses THE TAPE up", 0, x.count(8));
        }
        due("none of them", 0, x.count(6));
        text("fee 3-(2*!");
        text("fee 7");
        due("a FAULT leaves nothing behind", 7, x.fee());
        text("fee " + many("(", 9));
        text("fee " + many("!", 9));
        due("a FAULT leaves nothing behind", 1, text("fee " + many("!(", 8) + "h" + many(")", 8)));
        due("! and ( are open no more", 2, text("fee " + many("!(h)+", 12) + "h"));
        due("what they give", 12, x.fee());
    }

    private static void p27() {
        begin("27 text");
        String[] right = {"look(w)", "look!w", " look w ", "look 5", "fee\u0020(1<2)<3", "fee 1<2&2<3|3<4", "fee 1 <2",
            "fee " + many("(", 8) + "1" + many(")", 8) + "*" + many("(", 8) + "1" + many(")", 8),
            "fee " + many("!", 8) + "1+" + many("!", 8) + "1", "fee " + many("!(", 8) + "1" + many(")", 8),
            "look " + many(" ", 90) + "w", "fine d", "fine w", "look " + many("1+", 45) + "1"};
        for (int i = 0; i < right.length; i++) {
            due("text of " + right[i], i, text(right[i]));
            due("it uses THE TAPE up", 0, x.count(8));
        }
        due("TEXTS", 14, x.count(6));
        due("a FAULT ahead of FULL", -104, text("look"));
        due("FULL", FULL, text("look w"));
        due("it uses THE TAPE up", 0, x.count(8));
        due("TEXTS", 14, x.count(6));
        due("the last one counts still", 13, x.why(0));
    }

    private static void p28() {
        begin("28 textTold");
        due("none", BAD, x.textTold(0, 0));
        text("fine w+(d-12)*!3");
        text("look 1");
        text("fee h<l & h>2");
        int[][] rows = {{2, 4}, {0, 1}, {1, 4}};
        for (int i = 0; i < 3; i++) {
            due("KEY", rows[i][0], x.textTold(i, 0));
            due("NUMBERS and NAMES", rows[i][1], x.textTold(i, 1));
        }
        due("what", BAD, x.textTold(0, 2));
        due("what", BAD, x.textTold(0, -1));
        due("text", BAD, x.textTold(3, 0));
        due("text", BAD, x.textTold(-1, 0));
    }

    private static void p29() {
        begin("29 why");
        for (int key = 0; key < 3; key++) {
            due("none", NONE, x.why(key));
        }
        text("look 1");
        text("fine 1");
        text("look 2");
        due("look", 2, x.why(0));
        due("fee", NONE, x.why(1));
        due("fine", 1, x.why(2));
        text("look");
        due("a FAULT changes nothing", 2, x.why(0));
        due("key", BAD, x.why(3));
        due("key", BAD, x.why(-1));
    }

    private static void p30() {
        begin("30 sheet");
        due("sheet", 24, x.sheet(3, 1, 24));
        due("sheet", 0, x.sheet(0, 0, 0));
        due("no places", INDEX, x.mark(0, 0, 1));
        due("24 places", 1, x.mark(3, 23, 9));
        due("no 25th", INDEX, x.mark(3, 24, 9));
        due("too many", BAD, x.sheet(3, 0, 25));
        due("too few", SIZE, x.sheet(3, 0, -1));
        due("too few", SIZE, x.sheet(3, 1, Integer.MIN_VALUE));
        due("sheet", BAD, x.sheet(4, 0, 1));
        due("sheet", BAD, x.sheet(-1, 0, 1));
        due("BAD first", BAD, x.sheet(4, 0, -1));
        due("sort", BAD, x.sheet(0, 2, 1));
        due("sort", BAD, x.sheet(0, -2, -1));
        due("MISSING", BAD, x.sheet(4, -1, 1));
        x.lay(0, 2, 3);
        due("it has stayed", 9, x.item(0, 23));
        due("anew", 24, x.sheet(3, 0, 24));
        x.lay(0, 2, 3);
        due("all 0", 0, x.item(0, 23));
        due("MISSING", 0, x.sheet(3, -1, 99));
        due("it is MISSING", NOTHING, x.mark(3, 0, 0));
        due("MISSING", 0, x.sheet(3, -1, -7));
    }

    private static void p31() {
        begin("31 mark");
        due("MISSING", NOTHING, x.mark(0, 0, 0));
        due("BAD first", BAD, x.mark(4, 0, 0));
        due("sheet", BAD, x.mark(-1, 0, 0));
        x.sheet(0, 0, 3);
        x.sheet(1, 1, 3);
        int[][] shorts = {{32767, 32767}, {32768, -32768}, {-32769, 32767}, {65535, -1}, {65536, 0}, {-1, -1}, {BAD, 13823},
            {Integer.MIN_VALUE, 0}};
        for (int[] row : shorts) {
            due("mark", 1, x.mark(0, 2, row[0]));
            x.lay(0, 2, 0);
            due("lowest 16 bits of " + row[0], row[1], x.item(0, 2));
        }
        due("NONE in shorts", KIND, x.mark(0, 2, NONE));
        due("INDEX ahead of KIND", INDEX, x.mark(0, 3, NONE));
        due("INDEX", INDEX, x.mark(0, -1, 0));
        for (int v : new int[] {99999, -99999, 0, 40000}) {
            due("mark", 1, x.mark(1, 1, v));
            x.lay(0, 2, 1);
            due("floats", v, x.item(0, 1));
        }
        for (int v : new int[] {100000, -100000, Integer.MIN_VALUE, NO}) {
            due("too far", BAD, x.mark(1, 1, v));
            due("INDEX first", INDEX, x.mark(1, 3, v));
        }
        x.lay(0, 2, 1);
        due("it stays", 40000, x.item(0, 1));
        due("NO NUMBER", 1, x.mark(1, 1, NONE));
        x.lay(0, 2, 1);
        due("NO NUMBER", KIND, x.item(0, 1));
        due("a number again", 1, x.mark(1, 1, 5));
    }

    private static void p32() {
        begin("32 pour");
        due("sheet", BAD, x.pour(4));
        due("sheet", BAD, x.pour(-1));
        due("MISSING", NOTHING, x.pour(0));
        sheetOf(0, 1, 5, 100, -1, NONE, 44);
        due("no GUARDS", 0, x.pour(0));
        for (int g = 0; g < 6; g++) {
            x.guard(STRAW, g, 40 + g);
        }
        due("pour", 3, x.pour(0));
        int[] wear = {5, 99, 0, 43, 44, 45};
        for (int g = 0; g < 6; g++) {
            due("WEAR of " + g, wear[g], x.told(g, WEAR));
        }
        due("as they are", 0, x.pour(0));
        sheetOf(1, 0, 6, 99);
        due("one", 1, x.pour(1));
    }

    private static void p33() {
        begin("33 reads");
        due("sheet", BAD, x.reads(4));
        due("sheet", BAD, x.reads(-1));
        due("MISSING", NOTHING, x.reads(0));
        sheetOf(0, 1, NONE, NONE);
        due("no numbers", NONE, x.reads(0));
        sheetOf(0, 1, NONE, 3);
        due("no GUARD", 1, x.reads(0));
        x.guard(STRAW, 9, 0);
        x.guard(STRAW, 3, 0);
        due("as it is", NONE, x.reads(0));
        sheetOf(0, 0, 9, 3, 0);
        due("beyond", 2, x.reads(0));
        sheetOf(0, 0, 9, 4, 0);
        due("first", 1, x.reads(0));
        sheetOf(0, 0, 8, 3);
        due("the very first", 0, x.reads(0));
        sheetOf(0, 0);
        due("no places", NONE, x.reads(0));
        sheetOf(0, 1, 9);
        due("fewer", NONE, x.reads(0));
    }

    private static void p34() {
        begin("34 copy");
        due("MISSING", NOTHING, x.copy(0, 0, 1, 0, 1));
        sheetOf(0, 0, 1, 2, 3, 4, 5);
        due("to MISSING", NOTHING, x.copy(0, 0, 1, 0, 1));
        due("from MISSING", NOTHING, x.copy(1, 0, 0, 0, 1));
        sheetOf(1, 1, 7, NONE, 9);
        sheetOf(2, 1, 1, 1, 1, 1);
        for (int v : new int[] {-1, 4}) {
            due("from", BAD, x.copy(v, 0, 1, 0, 1));
            due("to", BAD, x.copy(1, 0, v, 0, 1));
        }
        due("sorts", KIND, x.copy(0, 0, 1, 0, 1));
        due("KIND ahead of INDEX", KIND, x.copy(0, 9, 1, 9, 1));
        due("NOTHING ahead of KIND", NOTHING, x.copy(0, 9, 3, 9, 1));
        int[][] wrong = {{-1, 0, 1}, {0, -1, 1}, {0, 0, -1}, {0, 0, 4}, {1, 0, 3}, {4, 0, 0}, {0, 5, 0}, {0, 2, 3},
            {Integer.MAX_VALUE, 0, Integer.MAX_VALUE}, {1, 1, Integer.MAX_VALUE}, {0, 0, Integer.MIN_VALUE}};
        for (int[] row : wrong) {
            due("INDEX", INDEX, x.copy(1, row[0], 2, row[1], row[2]));
        }
        due("none at the ends", 0, x.copy(1, 3, 2, 4, 0));
        due("copy", 2, x.copy(1, 1, 2, 2, 2));
        x.lay(0, 2, 2);
        due("item", 1, x.item(0, 1));
        due("NO NUMBER comes, too", KIND, x.item(0, 2));
        due("item", 9, x.item(0, 3));
        due("to the same", 4, x.copy(0, 0, 0, 1, 4));
        x.lay(0, 2, 0);
        int[] up = {1, 1, 2, 3, 4};
        for (int i = 0; i < 5; i++) {
            due("as they were", up[i], x.item(0, i));
        }
        due("to the same", 4, x.copy(0, 1, 0, 0, 4));
        x.lay(0, 2, 0);
        int[] down = {1, 2, 3, 4, 4};
        for (int i = 0; i < 5; i++) {
            due("as they were", down[i], x.item(0, i));
        }
    }

    private static void p35() {
        begin("35 lay");
        x.guard(COATED, 3, 10);
        sheetOf(2, 0, 8, 9);
        due("a GUARD", 0, x.lay(4, 1, 0));
        due("a SHEET", 1, x.lay(4, 2, 2));
        due("a number", 2, x.lay(4, 3, Integer.MIN_VALUE));
        due("nothing", 3, x.lay(4, 0, Integer.MAX_VALUE));
        due("nothing", 0, x.lay(4, 3, 5));
        due("slot", BAD, x.lay(5, 0, 0));
        due("slot", BAD, x.lay(-1, 0, 0));
        due("thing", BAD, x.lay(4, 4, 0));
        due("thing", BAD, x.lay(4, -1, 0));
        due("no such GUARD", BAD, x.lay(4, 1, 1));
        due("no such GUARD", BAD, x.lay(4, 1, -1));
        due("no such SHEET", BAD, x.lay(4, 2, 4));
        due("no such SHEET", BAD, x.lay(4, 2, -1));
        due("MISSING", NOTHING, x.lay(4, 2, 1));
        due("it holds what it held", 1, x.rest(4, 2));
        x.lay(0, 1, 0);
        x.lay(1, 2, 2);
        x.lay(2, 2, 2);
        x.set(0, WEAR, 90);
        x.turns(0, STRAW);
        due("as it was then", 15, x.ask(0, COATED));
        x.mark(2, 0, 77);
        due("a row of its own", 8, x.item(1, 0));
        x.sheet(2, -1, 0);
        due("a row of its own", 9, x.item(1, 1));
        due("places", INDEX, x.item(1, 2));
        x.keep();
        x.lay(3, 3, 9);
        x.back();
        due("no part of AN IMAGE", 3, x.lay(3, 0, 0));
    }

    private static void p36() {
        begin("36 ask");
        int[] worth = {20, 25, 79, 50, 72, 8};
        for (int kind = 0; kind < 6; kind++) {
            x.guard(kind, kind, 20);
            x.lay(0, 1, kind);
            for (int other = 0; other < 6; other++) {
                due("ask", x.as(kind, other) == KIND ? KIND : worth[kind], x.ask(0, other));
            }
        }
        due("slot", BAD, x.ask(5, 0));
        due("slot", BAD, x.ask(-1, 0));
        due("kind", BAD, x.ask(0, 6));
        due("kind", BAD, x.ask(1, -1));
        due("NOTHING", NOTHING, x.ask(1, 0));
        x.lay(1, 3, 7);
        due("a number", KIND, x.ask(1, 0));
        x.sheet(0, 0, 1);
        x.lay(1, 2, 0);
        due("a SHEET", KIND, x.ask(1, 0));
    }

    private static void p37() {
        begin("37 item");
        due("slot", BAD, x.item(5, 0));
        due("slot", BAD, x.item(-1, 0));
        due("NOTHING", NOTHING, x.item(0, 0));
        x.guard(STRAW, 0, 0);
        x.lay(0, 1, 0);
        due("a GUARD", KIND, x.item(0, 99));
        x.lay(0, 3, 0);
        due("a number", KIND, x.item(0, 0));
        sheetOf(0, 1, 6, NONE, -99999);
        x.lay(0, 2, 0);
        due("item", 6, x.item(0, 0));
        due("NO NUMBER", KIND, x.item(0, 1));
        due("item", -99999, x.item(0, 2));
        due("INDEX", INDEX, x.item(0, 3));
        due("INDEX", INDEX, x.item(0, -1));
    }

    private static void p38() {
        begin("38 rest");
        due("slot", BAD, x.rest(5, 0));
        due("slot", BAD, x.rest(-1, 1));
        due("NOTHING", NOTHING, x.rest(0, 0));
        x.guard(STRAW, 0, 0);
        x.lay(0, 1, 0);
        due("a GUARD", KIND, x.rest(0, 0));
        x.sheet(0, 0, 1);
        x.lay(0, 2, 0);
        due("a SHEET", KIND, x.rest(0, 1));
        int[][] rows = {{17, 5, 2}, {-17, 5, -2}, {17, -5, 2}, {-17, -5, -2}, {0, 3, 0}, {7, 0, NO},
            {Integer.MIN_VALUE, -1, 0}, {Integer.MIN_VALUE, Integer.MAX_VALUE, -1}, {5, Integer.MIN_VALUE, 5}};
        for (int[] row : rows) {
            x.lay(0, 3, row[0]);
            due("rest of " + row[0] + " by " + row[1], row[2], x.rest(0, row[1]));
        }
    }

    private static void p39() {
        begin("39 tell");
        for (int i = 1; i <= 60; i++) {
            due("tell", i, x.tell(i == 3 ? FULL : -i));
        }
        due("FULL", FULL, x.tell(0));
        due("they wait", 60, x.count(7));
    }

    private static void p40() {
        begin("40 check");
        x.tell(1);
        due("BAD ahead of NO", BAD, x.check(0));
        due("none wait", 0, x.count(7));
        x.tell(1);
        due("no IMAGE", NO, x.check(1));
        due("none wait", 0, x.count(7));
        due("n", BAD, x.check(31));
        due("n", BAD, x.check(-1));
        x.seed(12345);
        x.deal(8);
        x.rule(0, 8);
        x.nights(4);
        x.keep();
        int[] right = new int[60];
        for (int i = 0; i < 60; i += 2) {
            x.nights(1);
            right[i] = x.border(0);
            right[i + 1] = x.border(6);
        }
        Checks.holds("there is something to be told", right[59] > 0 && right[58] > right[0]);
        for (int n : new int[] {1, 2, 30}) {
            due("as it is", 0, tellAndCheck(right, 2 * n, -1, n));
            due("one is missing", 2 * n, tellAndCheck(right, 2 * n - 1, -1, n));
            due("none is told", 1, tellAndCheck(right, 0, -1, n));
            for (int wrong = 0; wrong < 2 * n; wrong += 1 + n / 3) {
                due("one is wrong", 1 + wrong, tellAndCheck(right, 2 * n, wrong, n));
            }
        }
        due("one too many", 3, tellAndCheck(right, 3, -1, 1));
        due("more too many", 3, tellAndCheck(right, 40, -1, 1));
        due("nothing changes", 34, x.count(1));
        begin("40 check, by the last NIGHTS");
        for (int i = 0; i < 99; i++) {
            x.nights(100);
        }
        x.nights(97);
        x.keep();
        due("two NIGHTS", 0, tellAndCheck(new int[4], 4, -1, 30));
        due("two NIGHTS", 5, tellAndCheck(new int[5], 5, -1, 3));
        due("one NIGHT", 0, tellAndCheck(new int[2], 2, -1, 1));
        x.nights(100);
        x.keep();
        due("no NIGHTS", 0, x.check(30));
        x.tell(0);
        due("no NIGHTS", 1, x.check(30));
    }

    private static int tellAndCheck(int[] row, int many, int wrong, int n) {
        for (int i = 0; i < many; i++) {
            x.tell(i == wrong ? row[i] + 1 : row[i]);
        }
        int answer = x.check(n);
        Checks.due(promise + ": none wait", 0, x.count(7));
        return answer;
    }

    private static int[] allOf() {
        int[] all = new int[200];
        int n = 0;
        for (int what = 0; what < 10; what++) {
            all[n++] = what == 7 || what == 8 ? 0 : x.count(what);
        }
        for (int what = 0; what < 7; what++) {
            all[n++] = x.border(what);
        }
        for (int g = 0; g < 10; g++) {
            for (int what = 0; what < 9; what++) {
                all[n++] = x.told(g, what);
            }
        }
        for (int key = 0; key < 3; key++) {
            all[n++] = x.why(key);
        }
        all[n++] = x.fee();
        all[n++] = x.fine(0);
        return all;
    }

    private static void changeAll() {
        x.guard(STRAW, x.at(0) == NONE ? 0 : x.at(1) == NONE ? 1 : 2, 3);
        x.turns(0, (x.told(0, 0) + 1) % 6);
        x.set(0, WEAR, 98 - x.told(0, WEAR));
        x.set(0, DOUBT, 98 - x.told(0, DOUBT));
        x.set(0, UP, 1 - x.told(0, UP));
        x.moves(0, x.at(19) == NONE ? 19 : 18);
        x.rule(3, 0);
        x.nights(2);
        x.rule(0, 1);
        x.rule(1, 2);
        x.rule(2, 999);
        x.rule(3, 4);
        x.seed(5);
        x.nights(3);
        text("look p");
        text("fee h+100");
        text("fine w+d+1");
    }

    private static void p41() {
        begin("41 keep");
        due("no GUARDS", 0, x.keep());
        x.seed(3);
        x.deal(4);
        text("fine 7");
        due("keep", 4, x.keep());
        int[] first = allOf();
        changeAll();
        int[] second = allOf();
        due("keep anew", 5, x.keep());
        changeAll();
        due("back", 5, x.back());
        same("the last IMAGE", second, allOf());
        Checks.holds("they differ", !java.util.Arrays.equals(first, second));
    }

    private static void same(String what, int[] want, int[] got) {
        for (int i = 0; i < want.length; i++) {
            due(what + ", number " + i, want[i], got[i]);
        }
    }

    private static void p42() {
        begin("42 back");
        due("there is none", NO, x.back());
        x.seed(3);
        x.deal(4);
        x.keep();
        int[] kept = allOf();
        changeAll();
        x.lay(0, 3, 7);
        x.sheet(1, 0, 3);
        x.tell(4);
        feed("look w");
        due("back", 4, x.back());
        same("as THE IMAGE", kept, allOf());
        due("numbers wait still", 1, x.count(7));
        due("THE TAPE is as it was", 6, x.count(8));
        due("SLOTS are as they were", 1, x.rest(0, 3));
        due("SHEETS are as they were", 1, x.mark(1, 2, 0));
        due("TEXTS are told anew", 0, x.text());
        due("of their own KEY", 0, x.textTold(0, 0));
        changeAll();
        due("again", 4, x.back());
        same("as THE IMAGE again", kept, allOf());
    }

    private static void p43() {
        begin("43 count");
        x.seed(-5);
        x.guard(STRAW, 1, 1);
        x.guard(STRAW, 2, 1);
        for (int what = 0; what < 4; what++) {
            x.rule(what, 11 + what);
        }
        text("look 1");
        x.tell(1);
        x.tell(1);
        x.tell(1);
        x.feed(1, 2, 3);
        int[] counts = {2, 0, 11, 12, 13, 14, 1, 3, 12, -5};
        for (int what = 0; what < 10; what++) {
            due("count(" + what + ")", counts[what], x.count(what));
        }
        x.nights(4);
        due("THE NIGHT", 4, x.count(1));
        due("what", BAD, x.count(10));
        due("what", BAD, x.count(-1));
    }

    /** Ten GUARDS fill every row. */
    private static void ten() {
        begin("ten GUARDS");
        for (int g = 0; g < 10; g++) {
            x.guard(g == 4 ? MAN : STRAW, 2 * g, 0);
        }
        x.rule(0, 19);
        x.rule(1, 0);
        x.rule(2, 0);
        for (int g = 0; g < 10; g++) {
            x.set(g, DOUBT, 20 + g);
        }
        sheetOf(0, 0, 29, 26, 23);
        due("like", 9, x.like(0, 0));
        due("like", 0, x.like(0, 1));
        due("behind", 26, x.behind(1, 13));
        due("behind", 9 * 60 + 99, x.behind(1, 3));
        due("becomes", GENERAL, x.becomes(9, 1, 0));
        due("washed", 0, x.washed(1, 0));
        due("needed", 0, x.needed(1));
        due("bluff", NONE, x.bluff());
        due("fewest", 4, x.fewest());
        due("covers", 2, x.covers(9, 1));
        due("seen", 1023, x.seen(9));
        x.keep();
        x.tell(0);
        x.tell(245 - 30);
        due("check", 0, x.check(1));
        x.rule(1, 100);
        due("nights", 0, x.nights(1));
        due("border", 215, x.border(6));
        due("border", 0, x.border(5));
        due("STRENGTH", 10, x.border(4));
        due("COUNTED", 9 * 59 + 99, x.border(3));
        sheetOf(1, 0, 0, 1, 2, 3, 4, 5, 6, 7, 8, 9, 10, 11);
        due("pour", 9, x.pour(1));
        due("reads", 1, x.reads(1));
        x.set(9, UP, 0);
        due("not UP", 512, x.border(5));
        due("back", 10, x.back());
    }

    public static void main(String[] args) {
        ten();
        p01();
        p02();
        p03();
        p03Texts();
        p04();
        p05();
        p06();
        p07();
        p08();
        p09();
        p10();
        p11();
        p12();
        p13Wind();
        p13Up();
        p13Doubt();
        p13Rain();
        p13Raid();
        p13();
        p14();
        p15();
        p16();
        p17();
        p18();
        p19();
        p20();
        p21();
        p22();
        p23();
        p24();
        p25();
        p26();
        p27Values();
        p27Faults();
        p27();
        p28();
        p29();
        p30();
        p31();
        p32();
        p33();
        p34();
        p35();
        p36();
        p37();
        p38();
        p39();
        p40();
        p41();
        p42();
        p43();
        Checks.end();
    }
}
