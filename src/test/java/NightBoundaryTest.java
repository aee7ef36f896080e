/** The boundary cases of promises 12 to 14: who is seen, A NIGHT, what the border tells. */
public final class NightBoundaryTest extends Boundary {

    // ---- 12 seen

    static void p12PostsAre0To19() {
        x.due(0, "seen", 0);
        x.due(0, "seen", 19);
        furnish();
        x.asked(1 | 2, "seen", 0);
        x.asked(1 << 5 | 1 << 6, "seen", 19);
        refusedWith(BAD, outside(0, 19), "seen", 0, 0);
    }

    static void p12SightAtMost() {
        x.call("guard", STRAW, 10, 0);
        int[] posts = {6, 7, 13, 14};
        for (int post : posts) {
            x.due(post >= 7 && post <= 13 ? 1 : 0, "seen", post);
        }
    }

    static void p12Sight0() {
        x.call("guard", STRAW, 10, 0);
        x.call("rule", SIGHT, 0);
        x.due(0, "seen", 9);
        x.due(1, "seen", 10);
        x.due(0, "seen", 11);
    }

    static void p12Sight19() {
        x.call("guard", STRAW, 0, 0);
        x.call("guard", STRAW, 19, 0);
        x.call("rule", SIGHT, 18);
        x.due(1, "seen", 0);
        x.due(2, "seen", 19);
        x.call("rule", SIGHT, 19);
        x.due(3, "seen", 0);
        x.due(3, "seen", 19);
    }

    static void p12AllTen() {
        for (int g = 0; g < 10; g++) {
            x.call("guard", g % 6, 2 * g, 0);
        }
        x.call("rule", SIGHT, 19);
        x.due(1023, "seen", 0);
        x.call("rule", SIGHT, 0);
        x.due(512, "seen", 18);
    }

    static void p12WhoIsNotUpToo() {
        furnish();
        x.due(0, "told", 1, UP);
        x.call("rule", SIGHT, 0);
        x.due(2, "seen", 3);
    }

    // ---- 13 nights: n

    static void p13NIs1To100() {
        furnish();
        refusedWith(BAD, outside(1, 100), "nights", 0, 1);
        int night = x.call("count", 1);
        x.call("nights", 1);
        x.due(night + 1, "count", 1);
        x.call("nights", 100);
        x.due(night + 101, "count", 1);
    }

    static void p13NoMoreThanUpTo9999() {
        x.call("guard", STRAW, 5, 50);
        nightsUntil(9997);
        x.due(1, "nights", 1);
        x.due(9998, "count", 1);
        int z = x.call("count", 9);
        x.due(1, "nights", 2);
        x.due(9999, "count", 1);
        x.due(behind(z, 3), "count", 9);
    }

    static void p13By9999NothingPasses() {
        furnish();
        nightsUntil(9999);
        x.asked(0, "nights", 1);
        x.asked(0, "nights", 100);
        x.refused(BAD, "nights", 0);
        x.refused(BAD, "nights", 101);
    }

    static void p13WithoutGuards() {
        x.due(100, "nights", 100);
        x.due(0, "border", 0);
        x.due(100, "border", 2);
        x.due(behind(1, 300), "count", 9);
    }

    // ---- 13 nights: (1) the wind

    private static void windAgainst(int kind, int wear, int falls) {
        x = new Run("p13Wind against KIND " + kind + ", WEAR " + wear);
        x.call("guard", kind, 5, wear);
        x.call("rule", SIGHT, 0);
        if (falls <= 99) {
            night(falls, 19, 99);
            x.due(1, "told", 0, UP);
            x.due(0, "border", 0);
        }
        if (falls > 0) {
            night(falls - 1, 19, 99);
            x.due(0, "told", 0, UP);
            x.due(1, "border", 0);
        }
    }

    static void p13FallsAboveTheWind() {
        windAgainst(STRAW, 0, 0);
        windAgainst(STRAW, 1, 0);
        windAgainst(STRAW, 2, 1);
        windAgainst(STRAW, 99, 49);
        windAgainst(COATED, 0, 4);
        windAgainst(COATED, 99, 53);
        windAgainst(GENERAL, 0, 4);
        windAgainst(GENERAL, 99, 53);
        windAgainst(LANTERN, 1, 0);
        windAgainst(LANTERN, 99, 98);
        windAgainst(MAN, 99, 0);
        windAgainst(SENTRY, 99, 0);
    }

    static void p13WhoIsNotUpFallsNoMore() {
        x.call("guard", STRAW, 5, 99);
        x.call("guard", STRAW, 6, 99);
        x.call("set", 0, UP, 0);
        night(0, 19, 99);
        x.due(1, "border", 0);
        night(0, 19, 99);
        x.due(1, "border", 0);
        x.due(3, "border", 5);
    }

    static void p13WindIsTheRestBy100() {
        x.call("guard", LANTERN, 5, 99);
        x.call("rule", SIGHT, 0);
        night(99, 19, 99);
        x.due(1, "told", 0, UP);
    }

    // ---- 13 nights: (2) who sets up whom

    private static void setUpFrom(int post, int other, int want) {
        x = new Run("p13 one at POST " + post + " sets up one at " + other);
        x.call("guard", MAN, post, 0);
        x.call("guard", STRAW, other, 0);
        x.call("set", 1, UP, 0);
        night(50, (post + 10) % 20, 99);
        x.due(want, "told", 1, UP);
    }

    static void p13NearIs2ApartAtMost() {
        for (int apart = -4; apart <= 4; apart++) {
            if (apart != 0) {
                setUpFrom(10, 10 + apart, Math.abs(apart) <= 2 ? 1 : 0);
            }
        }
    }

    static void p13TheLineIsNoRing() {
        setUpFrom(0, 19, 0);
        setUpFrom(19, 0, 0);
        setUpFrom(1, 19, 0);
        setUpFrom(0, 2, 1);
        setUpFrom(19, 17, 1);
    }

    static void p13TheFirstOneByNumbersAlone() {
        x.call("guard", STRAW, 12, 0);
        x.call("guard", STRAW, 9, 0);
        x.call("guard", MAN, 10, 0);
        x.call("guard", STRAW, 11, 0);
        for (int g = 0; g < 4; g++) {
            x.call("set", g, UP, g == 2 ? 1 : 0);
        }
        night(50, 0, 99);
        x.due(1 << 1 | 1 << 3, "border", 5);
        night(50, 0, 99);
        x.due(1 << 3, "border", 5);
        night(50, 0, 99);
        x.due(0, "border", 5);
    }

    static void p13WhoIsNotUpSetsUpNone() {
        x.call("guard", MAN, 10, 0);
        x.call("guard", STRAW, 11, 0);
        x.call("set", 0, UP, 0);
        x.call("set", 1, UP, 0);
        night(50, 0, 99);
        x.due(3, "border", 5);
    }

    static void p13WhoLivesNotSetsUpNone() {
        for (int kind : new int[] {STRAW, COATED, GENERAL, LANTERN}) {
            x = new Run("p13WhoLivesNotSetsUpNone, KIND " + kind);
            x.call("guard", kind, 10, 0);
            x.call("guard", STRAW, 11, 0);
            x.call("set", 1, UP, 0);
            night(50, 0, 99);
            x.due(2, "border", 5);
        }
    }

    static void p13ASentryLivesToo() {
        x.call("guard", SENTRY, 10, 0);
        x.call("guard", MAN, 11, 0);
        x.call("set", 1, UP, 0);
        night(50, 0, 99);
        x.due(0, "border", 5);
    }

    static void p13WhoIsSetUpSetsUpIfItsNumberIsYetToCome() {
        x.call("guard", MAN, 6, 0);
        x.call("guard", MAN, 8, 0);
        x.call("guard", STRAW, 10, 0);
        x.call("set", 1, UP, 0);
        x.call("set", 2, UP, 0);
        night(50, 19, 99);
        x.due(0, "border", 5);
    }

    static void p13WhoIsSetUpSetsUpNoneIfItsNumberHasGoneBy() {
        x.call("guard", MAN, 8, 0);
        x.call("guard", MAN, 6, 0);
        x.call("guard", STRAW, 10, 0);
        x.call("set", 0, UP, 0);
        x.call("set", 2, UP, 0);
        night(50, 19, 99);
        x.due(1 << 2, "border", 5);
        night(50, 19, 99);
        x.due(0, "border", 5);
    }

    // ---- 13 nights: (3) who is doubted

    private static void doubtBehind(int want, int doubt, int up, int apart) {
        x.call("set", 0, DOUBT, doubt);
        x.call("set", 0, UP, up);
        night(99, 10 + apart, 99);
        x.due(want, "told", 0, DOUBT);
    }

    static void p13SightAtMostFromThePost() {
        x.call("guard", STRAW, 10, 0);
        for (int sight = 0; sight < 9; sight++) {
            x.call("rule", SIGHT, sight);
            doubtBehind(47, 50, 1, sight);
            doubtBehind(47, 50, 1, -sight);
            doubtBehind(50, 50, 1, sight + 1);
            doubtBehind(50, 50, 1, -sight - 1);
        }
    }

    static void p13WatchersKnowNoRing() {
        x.call("guard", STRAW, 0, 0);
        x.call("set", 0, DOUBT, 50);
        night(99, 19, 99);
        x.due(50, "told", 0, DOUBT);
        x.call("rule", SIGHT, 18);
        night(99, 19, 99);
        x.due(50, "told", 0, DOUBT);
        x.call("rule", SIGHT, 19);
        night(99, 19, 99);
        x.due(47, "told", 0, DOUBT);
    }

    static void p13LooksBelow40() {
        x.call("guard", STRAW, 10, 0);
        for (int looks : new int[] {0, 39, 40, 41, 99}) {
            x.text("look " + looks);
            doubtBehind(looks < 40 ? 59 : 47, 50, 1, 0);
        }
        x.call("turns", 0, COATED);
        x.text("look 27");
        doubtBehind(59, 50, 1, 0);
        x.text("look 28");
        doubtBehind(47, 50, 1, 0);
    }

    static void p13DoubtOf20MoreIfNotUp() {
        x.call("guard", STRAW, 10, 0);
        x.text("look 39");
        doubtBehind(70, 50, 0, 0);
        x.text("look 40");
        doubtBehind(70, 50, 0, 0);
    }

    static void p13DoubtIs0AtLeast() {
        x.call("guard", STRAW, 10, 0);
        int[][] rows = {{4, 1}, {3, 0}, {2, 0}, {1, 0}, {0, 0}};
        for (int[] row : rows) {
            doubtBehind(row[1], row[0], 1, 0);
        }
    }

    static void p13DoubtIs99AtMost() {
        x.call("guard", STRAW, 10, 99);
        int[][] rows = {{89, 98}, {90, 99}, {91, 99}, {99, 99}};
        for (int[] row : rows) {
            doubtBehind(row[1], row[0], 1, 0);
        }
        int[][] down = {{78, 98}, {79, 99}, {80, 99}, {99, 99}};
        for (int[] row : down) {
            doubtBehind(row[1], row[0], 0, 0);
        }
    }

    static void p13DoubtByTheLookOfTheNightThatPasses() {
        x.call("guard", LANTERN, 10, 0);
        x.text("look 20");
        x.call("rule", RAIN, 0);
        // NIGHT 0 is even: it LOOKS 20; NIGHT 1 is odd: 40.
        doubtBehind(59, 50, 1, 0);
        doubtBehind(47, 50, 1, 0);
        doubtBehind(59, 50, 1, 0);
    }

    // ---- 13 nights: (4) rain

    private static void wearBehind(int want, int wear, int rain, int drawn) {
        x.call("set", 0, WEAR, wear);
        x.call("rule", RAIN, rain);
        night(99, 0, drawn);
        x.due(want, "told", 0, WEAR);
    }

    static void p13TheRestIsBelowRain() {
        x.call("guard", STRAW, 10, 0);
        wearBehind(13, 10, 30, 29);
        wearBehind(10, 10, 30, 30);
        wearBehind(13, 10, 1, 0);
        wearBehind(10, 10, 1, 1);
    }

    static void p13Rain0AndRain100() {
        x.call("guard", STRAW, 10, 0);
        wearBehind(10, 10, 0, 0);
        wearBehind(13, 10, 100, 99);
        wearBehind(10, 10, 99, 99);
        wearBehind(13, 10, 99, 98);
    }

    static void p13WearIs99AtMost() {
        x.call("guard", STRAW, 10, 0);
        wearBehind(98, 95, 100, 50);
        wearBehind(99, 96, 100, 50);
        wearBehind(99, 97, 100, 50);
        wearBehind(99, 99, 100, 50);
        wearBehind(3, 0, 100, 50);
    }

    static void p13RainWearsNoneThatLives() {
        for (int kind = 0; kind < 6; kind++) {
            x.call("guard", kind, 3 * kind, 50);
        }
        x.call("guard", STRAW, 19, 50);
        x.call("set", 6, UP, 0);
        x.call("rule", RAIN, 100);
        night(99, 10, 99);
        int[] wear = {53, 53, 50, 53, 50, 53, 53};
        for (int g = 0; g < 7; g++) {
            x.due(wear[g], "told", g, WEAR);
        }
    }

    // ---- 13 nights: (5) a RAID

    static void p13CountedBelowCourage() {
        x.call("guard", MAN, 10, 0);
        x.call("rule", COURAGE, 98);
        x.due(0, "nights", 1);
        x.call("rule", COURAGE, 99);
        x.due(0, "nights", 1);
        x.call("rule", COURAGE, 100);
        x.due(1, "nights", 1);
        x.due(1, "border", 2);
    }

    static void p13CountedNoneAndCourage0() {
        x.call("rule", COURAGE, 0);
        x.due(0, "nights", 100);
        x.call("rule", COURAGE, 1);
        x.due(1, "nights", 1);
    }

    static void p13Courage999() {
        for (int g = 0; g < 10; g++) {
            x.call("guard", MAN, g, 0);
        }
        x.call("rule", COURAGE, 990);
        x.due(0, "nights", 3);
        x.call("rule", COURAGE, 991);
        x.due(3, "nights", 3);
        x.call("rule", COURAGE, 999);
        x.due(3, "nights", 3);
        x.call("turns", 0, GENERAL);
        x.text("look 99");
        x.due(0, "nights", 1);
    }

    static void p13DoubtBelow50IsCounted() {
        x.call("guard", MAN, 10, 0);
        x.call("rule", COURAGE, 99);
        x.call("set", 0, DOUBT, 49);
        night(99, 0, 99);
        x.due(0, "border", 2);
        x.call("set", 0, DOUBT, 50);
        night(99, 0, 99);
        x.due(1, "border", 2);
        x.call("set", 0, DOUBT, 52);
        night(99, 10, 99);
        x.due(1, "border", 2);
        x.call("set", 0, DOUBT, 53);
        night(99, 10, 99);
        x.due(2, "border", 2);
    }

    static void p13CountedBehindTheRain() {
        x.call("guard", STRAW, 10, 0);
        x.call("rule", COURAGE, 60);
        x.call("rule", RAIN, 50);
        night(99, 0, 50);
        x.due(0, "border", 2);
        night(99, 0, 49);
        x.due(1, "border", 2);
    }

    static void p13CountedByTheNightThatPasses() {
        x.call("guard", LANTERN, 10, 0);
        x.call("rule", RAIN, 0);
        x.call("rule", COURAGE, 80);
        night(99, 0, 99);
        x.due(1, "border", 2);
        night(99, 0, 99);
        x.due(1, "border", 2);
        night(99, 0, 99);
        x.due(2, "border", 2);
    }

    static void p13StrengthIsForceOrMore() {
        x.call("guard", MAN, 10, 0);
        x.call("guard", SENTRY, 15, 0);
        x.call("rule", COURAGE, 999);
        int[][] rows = {{24, 1, 0}, {25, 2, 0}, {26, 2, 1}};
        for (int[] row : rows) {
            x.call("rule", FORCE, row[0]);
            x.due(1, "nights", 1);
            x.due(row[1], "border", 1);
            x.due(row[2], "border", 2);
        }
    }

    static void p13Force0IsHeldByNone() {
        x.call("rule", FORCE, 0);
        x.due(1, "nights", 1);
        x.due(1, "border", 1);
        x.call("rule", FORCE, 1);
        x.due(1, "nights", 1);
        x.due(1, "border", 1);
        x.due(1, "border", 2);
    }

    static void p13WithoutARaidNothingIsHeldOrLost() {
        x.call("guard", MAN, 10, 0);
        x.call("rule", COURAGE, 99);
        x.call("rule", FORCE, 0);
        x.due(0, "nights", 5);
        x.due(0, "border", 1);
        x.due(0, "border", 2);
        x.due(5, "count", 1);
    }

    static void p13InHowManyThereWasARaid() {
        x.call("guard", STRAW, 10, 0);
        x.call("rule", COURAGE, 50);
        x.call("rule", RAIN, 100);
        x.call("rule", SIGHT, 0);
        x.call("seed", calmSeed());
        // It LOOKS 60 less half of 3, 6, .. 27: 50 behind the seventh NIGHT, less behind the two last ones.
        x.due(2, "nights", 9);
        x.due(2, "border", 2);
    }

    /** A z from which nine NIGHTS neither blow at nor look at POST 10, where WEAR is 27 at most. */
    private static int calmSeed() {
        for (int z = 0; z < 1000000; z++) {
            boolean calm = true;
            for (int n = 0; n < 9 && calm; n++) {
                calm = drawnFrom(behind(z, 3 * n)) % 100 >= 14 && drawnFrom(behind(z, 3 * n + 1)) % 20 != 10;
            }
            if (calm) {
                return z;
            }
        }
        throw new IllegalStateException("no such z");
    }

    // ---- 14 border

    static void p14WhatIs0To6() {
        furnish();
        x.asked(x.call("border", 0), "border", 0);
        x.asked(x.call("border", 6), "border", 6);
        refusedWith(BAD, outside(0, 6), "border", 0, 0);
    }

    static void p14WithoutGuards() {
        for (int what = 0; what < 7; what++) {
            x.due(0, "border", what);
        }
    }

    static void p14CountedIsOfDoubtBelow50() {
        x.call("guard", MAN, 10, 0);
        x.call("set", 0, DOUBT, 49);
        x.due(99, "border", 3);
        x.call("set", 0, DOUBT, 50);
        x.due(0, "border", 3);
        x.call("set", 0, DOUBT, 99);
        x.due(0, "border", 3);
    }

    static void p14CountedAndStrengthAreOfThoseUp() {
        x.call("guard", MAN, 10, 0);
        x.call("guard", SENTRY, 11, 0);
        x.due(198, "border", 3);
        x.due(25, "border", 4);
        x.call("set", 1, UP, 0);
        x.due(99, "border", 3);
        x.due(10, "border", 4);
        x.call("set", 0, UP, 0);
        x.due(0, "border", 3);
        x.due(0, "border", 4);
    }

    static void p14StrengthIsOfTheDoubtedToo() {
        x.call("guard", MAN, 10, 0);
        x.call("set", 0, DOUBT, 99);
        x.due(10, "border", 4);
    }

    static void p14ThoseThatAreNotUpAsASet() {
        for (int g = 0; g < 10; g++) {
            x.call("guard", g % 6, g, 0);
            x.call("set", g, UP, 0);
        }
        x.due(1023, "border", 5);
        x.call("set", 0, UP, 1);
        x.due(1022, "border", 5);
        x.call("set", 9, UP, 1);
        x.due(510, "border", 5);
    }

    static void p14MostOfAllTen() {
        for (int g = 0; g < 10; g++) {
            x.call("guard", GENERAL, g, 0);
            x.call("set", g, DOUBT, 99);
        }
        x.due(990, "border", 6);
        x.due(0, "border", 3);
        for (int g = 0; g < 10; g++) {
            x.call("set", g, DOUBT, 49);
        }
        x.text("look 99");
        x.due(2220, "border", 3);
        x.due(490, "border", 6);
    }

    public static void main(String[] args) throws Exception {
        runAll(NightBoundaryTest.class, 12, 14);
    }
}
