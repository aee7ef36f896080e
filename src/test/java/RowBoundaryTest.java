import java.util.Arrays;

/** The boundary cases of promises 39 to 43: numbers that wait, rows that are checked, IMAGES, what is counted. */
public final class RowBoundaryTest extends Boundary {

    // ---- 39 tell

    static void p39SixtyAndNoMore() {
        furnish();
        for (int i = 4; i <= 60; i++) {
            x.due(i, "tell", -i);
        }
        x.refused(FULL, "tell", 0);
        x.due(FULL, "tell", 1);
        x.due(60, "count", 7);
    }

    static void p39AnyNumber() {
        int n = 0;
        for (int v : new int[] {MIN, MAX, 0, FULL, NONE}) {
            n++;
            x.due(n, "tell", v);
        }
        x.due(5, "count", 7);
    }

    static void p39WhenNoneWaitAnyMore() {
        for (int i = 1; i <= 60; i++) {
            x.call("tell", i);
        }
        x.due(NO, "check", 1);
        x.due(0, "count", 7);
        x.due(1, "tell", 0);
    }

    // ---- 40 check

    /** Numbers as they are due, for thirty NIGHTS by THE IMAGE that is kept here. */
    private static int[] kept() {
        x.call("seed", 12345);
        x.call("deal", 8);
        x.call("rule", SIGHT, 8);
        x.call("nights", 4);
        x.call("keep");
        Run passing = x.again();
        int[] due = new int[60];
        for (int i = 0; i < 60; i += 2) {
            passing.call("nights", 1);
            due[i] = passing.call("border", 0);
            due[i + 1] = passing.call("border", 6);
        }
        return due;
    }

    private static void checks(int want, int n, int... told) {
        Run other = x.again();
        for (int v : told) {
            other.call("tell", v);
        }
        other.due(want, "check", n);
        other.due(0, "count", 7);
    }

    static void p40NIs1To30() {
        furnish();
        for (int n : outside(1, 30)) {
            x.changesOnly("numbers ", BAD, "check", n);
        }
        int[] due = kept();
        x.call("check", 1);
        checks(0, 1, Arrays.copyOf(due, 2));
        checks(0, 29, Arrays.copyOf(due, 58));
        checks(0, 30, due);
    }

    static void p40NoneWaitThenWhateverIsAnswered() {
        for (int image = 0; image < 2; image++) {
            for (int n : new int[] {0, 1, 30, 31, -1}) {
                x.call("tell", 1);
                x.call("tell", 2);
                x.call("check", n);
                x.due(0, "count", 7);
            }
            x.call("keep");
        }
    }

    static void p40ThereIsNoImage() {
        x.call("tell", 0);
        x.changesOnly("numbers ", NO, "check", 1);
        x.due(NO, "check", 30);
        x.due(0, "count", 7);
        x.call("keep");
        x.due(1, "check", 1);
    }

    static void p40OfSeveralTheFirst() {
        x.due(BAD, "check", 0);
        x.due(BAD, "check", 31);
        x.due(NO, "check", 1);
    }

    static void p40OneThatIsNotIt() {
        int[] due = kept();
        for (int n : new int[] {1, 2, 30}) {
            for (int wrong = 0; wrong < 2 * n; wrong++) {
                int[] told = Arrays.copyOf(due, 2 * n);
                told[wrong] += wrong % 3 == 0 ? 1 : -1;
                checks(1 + wrong, n, told);
            }
        }
    }

    static void p40TheFirstOneOfSeveral() {
        int[] due = kept();
        int[] told = Arrays.copyOf(due, 6);
        told[3]++;
        told[5]++;
        checks(4, 3, told);
        checks(4, 2, told);
        checks(3, 1, told);
    }

    static void p40OneIsMissing() {
        int[] due = kept();
        checks(1, 1);
        checks(1, 30);
        for (int n : new int[] {1, 2, 30}) {
            checks(2 * n, n, Arrays.copyOf(due, 2 * n - 1));
            checks(2 * n - 1, n, Arrays.copyOf(due, 2 * n - 2));
        }
    }

    static void p40OneTooMany() {
        int[] due = kept();
        checks(3, 1, Arrays.copyOf(due, 3));
        checks(3, 1, Arrays.copyOf(due, 60));
        checks(59, 29, Arrays.copyOf(due, 59));
        checks(59, 29, due);
    }

    static void p40ByTheImageNotByWhatIsNow() {
        int[] due = kept();
        x.call("nights", 7);
        x.call("seed", 99);
        x.call("turns", 0, MAN);
        checks(0, 30, due);
        x.call("tell", due[0]);
        x.call("tell", due[1]);
        x.changesOnly("numbers ", 0, "check", 1);
    }

    static void p40FewerIfTheNightWouldBeAbove9999() {
        nightsUntil(9997);
        x.call("keep");
        checks(0, 1, 0, 0);
        checks(0, 2, 0, 0, 0, 0);
        checks(0, 3, 0, 0, 0, 0);
        checks(0, 30, 0, 0, 0, 0);
        checks(5, 3, 0, 0, 0, 0, 0);
        checks(4, 3, 0, 0, 0);
        checks(5, 2, 0, 0, 0, 0, 0, 0);
    }

    static void p40NoNightsAreLeft() {
        nightsUntil(9999);
        x.call("keep");
        checks(0, 1);
        checks(0, 30);
        checks(1, 1, 0);
        checks(1, 30, 0, 0);
    }

    static void p40ItIsTheImagesNightThatIsBound() {
        x.call("keep");
        nightsUntil(9999);
        checks(0, 2, 0, 0, 0, 0);
        checks(1, 1);
    }

    // ---- 41 keep

    static void p41NoGuards() {
        x.due(0, "keep");
        x.due(0, "back");
    }

    static void p41TenGuards() {
        x.call("deal", 10);
        x.due(10, "keep");
        x.due(10, "back");
    }

    static void p41NothingElseChanges() {
        furnish();
        x.call("check", 1);
        Run other = x.again();
        other.due(7, "keep");
        for (int what = 0; what < 10; what++) {
            other.due(x.call("count", what), "count", what);
        }
        other.due(7, "item", 4, 0);
        other.due(1, "mark", 1, 2, NONE);
    }

    static void p41TheLastOneIsTheImage() {
        furnish();
        x.due(7, "keep");
        x.call("guard", STRAW, 1, 1);
        x.due(8, "keep");
        x.call("guard", STRAW, 2, 1);
        x.due(8, "back");
    }

    static void p41WhatComesLaterIsNotInIt() {
        furnish();
        x.due(7, "keep");
        int[] rules = {x.call("count", 2), x.call("count", 3), x.call("count", 4), x.call("count", 5)};
        for (int what = 0; what < 4; what++) {
            x.call("rule", what, what);
        }
        x.call("set", 0, DOUBT, 99);
        x.call("moves", 0, 1);
        x.due(7, "back");
        x.due(33, "told", 0, DOUBT);
        x.due(0, "told", 0, POST);
        for (int what = 0; what < 4; what++) {
            x.due(rules[what], "count", 2 + what);
        }
    }

    // ---- 42 back

    static void p42ThereIsNone() {
        x.refused(NO, "back");
        furnish();
        x.due(6, "back");
    }

    static void p42AllIsAsTheImage() {
        furnish();
        x.due(7, "keep");
        Run kept = x.again();
        x.call("deal", 3);
        x.call("nights", 9);
        x.call("turns", 2, STRAW);
        x.call("set", 6, WEAR, 99);
        x.call("rule", RAIN, 1);
        x.text("look 1");
        x.text("fine 2");
        x.call("seed", 5);
        x.due(7, "back");
        for (int what = 0; what < 7; what++) {
            x.due(kept.call("count", what), "count", what);
            x.due(kept.call("border", what), "border", what);
        }
        x.due(kept.call("count", 9), "count", 9);
        for (int g = 0; g < 10; g++) {
            for (int what = 0; what < 9; what++) {
                x.due(kept.call("told", g, what), "told", g, what);
            }
            x.due(kept.call("fine", g), "fine", g);
        }
        x.due(kept.call("fee"), "fee");
        x.due(NONE, "at", 1);
    }

    static void p42AgainAndAgain() {
        furnish();
        for (int i = 0; i < 3; i++) {
            x.call("nights", 5);
            x.call("guard", STRAW, 1, 1);
            x.due(6, "back");
            x.due(4, "count", 1);
            x.due(2, "count", 6);
        }
        x.asked(6, "back");
    }

    static void p42SheetsSlotsNumbersAndTheTapeStay() {
        furnish();
        x.due(6, "back");
        x.due(5, "count", 8);
        x.due(3, "count", 7);
        x.place(-8, 0, 1);
        x.place(70000, 1, 0);
        x.due(NOTHING, "reads", 2);
        x.due(KIND, "item", 2, 1);
        x.due(-1234567, "rest", 3, MIN);
        x.due(3, "check", 1);
        x.due(2, "text");
        x.due(5, "fee");
    }

    static void p42FallenHeldLostAndTheNightGoBack() {
        x.call("guard", LANTERN, 5, 99);
        x.call("rule", COURAGE, 999);
        x.call("keep");
        x.call("nights", 50);
        x.call("rule", FORCE, 0);
        x.call("nights", 5);
        Checks.holds("p42: one has FALLEN", x.call("border", 0) == 1);
        x.call("back");
        for (int what = 0; what < 3; what++) {
            x.due(0, "border", what);
        }
        x.due(0, "count", 1);
        x.due(20, "count", 5);
    }

    static void p42OutOfTheLastNight() {
        nightsUntil(9998);
        x.call("keep");
        x.due(1, "nights", 100);
        x.due(0, "nights", 100);
        x.call("back");
        x.due(9998, "count", 1);
        x.due(1, "nights", 100);
    }

    static void p42TextsHaveRoomAgain() {
        x.text("fee 1");
        x.call("keep");
        for (int i = 1; i < 14; i++) {
            x.text("fee " + (1 + i));
        }
        Checks.due("p42 FULL", FULL, x.text("fee 99"));
        x.call("back");
        x.due(1, "fee");
        x.due(0, "why", 1);
        for (int i = 1; i < 14; i++) {
            Checks.due("p42 a TEXT's number", i, x.text("fee " + (20 + i)));
        }
        x.due(33, "fee");
        Checks.due("p42 FULL", FULL, x.text("fee 99"));
        x.call("back");
        x.due(1, "fee");
    }

    // ---- 43 count

    static void p43WhatIs0To9() {
        furnish();
        x.asked(7, "count", 0);
        x.asked(x.call("count", 9), "count", 9);
        refusedWith(BAD, outside(0, 9), "count", 0, 0);
    }

    static void p43AsManyAsCanBe() {
        x.call("deal", 10);
        for (int i = 0; i < 14; i++) {
            x.text("look 1");
        }
        for (int i = 0; i < 60; i++) {
            x.call("tell", i);
        }
        x.tape(many(" ", 96));
        nightsUntil(9999);
        int[] counts = {10, 9999, 3, 30, 200, 20, 14, 60, 96};
        for (int what = 0; what < counts.length; what++) {
            x.due(counts[what], "count", what);
        }
    }

    static void p43RulesAtTheirEnds() {
        int[] most = {19, 100, 999, 999};
        for (int what = 0; what < 4; what++) {
            x.call("rule", what, most[what]);
            x.due(most[what], "count", 2 + what);
            x.call("rule", what, 0);
            x.due(0, "count", 2 + what);
        }
    }

    static void p43ZAtItsEnds() {
        for (int z : new int[] {MIN, MAX, 0}) {
            x.call("seed", z);
            x.due(z, "count", 9);
        }
    }

    static void p43WhatIsRefusedIsNotCounted() {
        x.call("guard", STRAW, 0, 100);
        x.call("nights", 101);
        x.call("rule", 0, 20);
        x.text("look");
        x.call("trim", 1);
        int[] counts = {0, 0, 3, 30, 200, 20, 0, 0, 0, 1};
        for (int what = 0; what < counts.length; what++) {
            x.due(counts[what], "count", what);
        }
    }

    public static void main(String[] args) throws Exception {
        runAll(RowBoundaryTest.class, 39, 43);
    }
}
