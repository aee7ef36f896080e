import java.util.Arrays;

/** The boundary cases of promises 15 to 24: where to stand, what will be, what fee and fine give. */
public final class ThoughtBoundaryTest extends Boundary {

    // ---- 15 covers

    static void p15GuardsAreThoseThatThereAre() {
        x.due(BAD, "covers", 0, 0);
        furnish();
        refusedWith(BAD, outside(0, 6), "covers", 0, 0, 0);
        x.asked(17, "covers", 0, 0);
        x.asked(2, "covers", 6, 1);
    }

    static void p15WhatIs0Or1() {
        furnish();
        refusedWith(BAD, outside(0, 1), "covers", 1, 6, 0);
    }

    static void p15NoOthers() {
        x.call("guard", STRAW, 10, 0);
        x.due(0, "covers", 0, 0);
        x.due(0, "covers", 0, 1);
        x.call("guard", MAN, 0, 0);
        x.due(1, "covers", 0, 0);
        x.due(0, "covers", 0, 1);
        x.due(8, "covers", 1, 0);
        x.due(1, "covers", 1, 1);
    }

    static void p15NearIs2ApartAtMost() {
        x.call("guard", MAN, 0, 0);
        x.call("guard", STRAW, 8, 0);
        x.call("guard", STRAW, 12, 0);
        x.due(10, "covers", 0, 0);
        x.due(2, "covers", 0, 1);
        x.call("moves", 2, 13);
        x.due(6, "covers", 0, 0);
        x.due(1, "covers", 0, 1);
    }

    static void p15OfSeveralTheLeast() {
        x.call("guard", MAN, 19, 0);
        x.call("guard", STRAW, 5, 0);
        x.due(3, "covers", 0, 0);
        x.call("guard", MAN, 3, 0);
        x.due(4, "covers", 0, 0);
        x.call("guard", MAN, 4, 0);
        x.due(6, "covers", 0, 0);
        x.call("guard", MAN, 6, 0);
        x.due(7, "covers", 0, 0);
        x.due(1, "covers", 0, 1);
        x.call("guard", MAN, 7, 0);
        x.due(0, "covers", 0, 0);
        x.due(0, "covers", 0, 1);
    }

    static void p15ItsOwnPostOrOneThatIsNobodys() {
        x.call("guard", MAN, 4, 0);
        x.call("guard", STRAW, 3, 0);
        x.call("guard", STRAW, 5, 0);
        x.call("guard", MAN, 10, 0);
        x.due(4, "covers", 0, 0);
        x.due(2, "covers", 0, 1);
        x.call("moves", 1, 2);
        x.call("moves", 2, 6);
        x.due(4, "covers", 0, 0);
        x.due(2, "covers", 0, 1);
        x.due(0, "covers", 3, 0);
        x.due(1, "covers", 3, 1);
    }

    static void p15OthersAlone() {
        x.call("guard", STRAW, 5, 0);
        x.due(0, "covers", 0, 1);
        x.call("guard", STRAW, 6, 0);
        x.due(1, "covers", 0, 1);
        x.due(4, "covers", 0, 0);
        x.due(3, "covers", 1, 0);
        x.due(1, "covers", 1, 1);
    }

    static void p15ThoseThatDoNotLive() {
        x.call("guard", MAN, 0, 0);
        for (int kind = 0; kind < 6; kind++) {
            x.call("guard", kind, 10, 0);
            x.due(kind == MAN || kind == SENTRY ? 0 : 1, "covers", 0, 1);
            x.call("moves", 1 + kind, 14 + kind);
            x.call("turns", 1 + kind, MAN);
        }
    }

    static void p15WhoIsNotUpOrDoubtedToo() {
        x.call("guard", MAN, 0, 0);
        x.call("guard", STRAW, 10, 0);
        x.call("set", 1, UP, 0);
        x.call("set", 1, DOUBT, 99);
        x.due(8, "covers", 0, 0);
        x.due(1, "covers", 0, 1);
    }

    static void p15ThereAreNoPostsBelow0OrAbove19() {
        x.call("guard", MAN, 10, 0);
        x.call("guard", STRAW, 0, 0);
        x.due(1, "covers", 0, 0);
        x.call("guard", MAN, 1, 0);
        x.call("guard", MAN, 2, 0);
        x.due(0, "covers", 0, 1);
        x.call("moves", 1, 19);
        x.due(17, "covers", 0, 0);
        x.call("moves", 2, 17);
        x.call("moves", 3, 18);
        x.due(0, "covers", 0, 0);
        x.due(0, "covers", 0, 1);
    }

    static void p15All9Others() {
        for (int g = 0; g < 10; g++) {
            x.call("guard", STRAW, g, 0);
        }
        x.due(0, "covers", 0, 0);
        x.due(2, "covers", 0, 1);
        x.due(2, "covers", 2, 0);
        x.due(4, "covers", 2, 1);
    }

    // ---- 16 fewest

    static void p16NoGuards() {
        x.due(0, "fewest");
    }

    static void p16NoneButThoseThatLive() {
        x.call("guard", MAN, 5, 0);
        x.call("guard", SENTRY, 15, 0);
        x.due(0, "fewest");
        x.call("turns", 1, GENERAL);
        x.due(1, "fewest");
    }

    static void p16FourApartIsOneFiveApartTwo() {
        for (int first = 0; first < 15; first++) {
            x = new Run("p16 from POST " + first);
            x.call("guard", STRAW, first, 0);
            x.due(1, "fewest");
            x.call("guard", STRAW, first + 4, 0);
            x.due(1, "fewest");
            x.call("moves", 1, first + 5);
            x.due(2, "fewest");
        }
    }

    static void p16TheEndsOfTheLine() {
        x.call("guard", STRAW, 19, 0);
        x.due(1, "fewest");
        x.call("guard", COATED, 0, 0);
        x.due(2, "fewest");
        x.call("guard", LANTERN, 15, 0);
        x.due(2, "fewest");
        x.call("moves", 2, 14);
        x.due(3, "fewest");
    }

    static void p16WhoIsNotUpToo() {
        x.call("guard", STRAW, 19, 0);
        x.call("set", 0, UP, 0);
        x.due(1, "fewest");
    }

    static void p16TenGuards() {
        for (int g = 0; g < 10; g++) {
            x.call("guard", STRAW, 2 * g, 0);
        }
        x.due(4, "fewest");
        x.call("moves", 9, 19);
        x.due(4, "fewest");
        x = new Run("p16TenGuards");
        for (int g = 0; g < 10; g++) {
            x.call("guard", STRAW, g, 0);
        }
        x.due(2, "fewest");
        x.call("moves", 0, 10);
        x.due(2, "fewest");
        x.call("moves", 1, 11);
        x.due(2, "fewest");
    }

    static void p16NothingChanges() {
        furnish();
        x.asked(3, "fewest");
    }

    // ---- 17 behind

    static void p17NIs0To100() {
        furnish();
        refusedWith(BAD, outside(0, 100), "behind", 0, 0, 0);
        for (int n : new int[] {0, 1, 99, 100}) {
            Run passed = x.again();
            if (n > 0) {
                passed.call("nights", n);
            }
            for (int what = 0; what < 4; what++) {
                x.asked(passed.call("border", what), "behind", n, what);
            }
            x.asked(passed.call("told", 6, DOUBT), "behind", n, 10);
        }
    }

    static void p17WhatIs0To3And4ForEachGuard() {
        furnish();
        refusedWith(BAD, outside(0, 10), "behind", 1, 0, 0);
        x.asked(33, "behind", 0, 4);
        x.asked(0, "behind", 0, 10);
    }

    static void p17WhatWithoutGuards() {
        x.due(0, "behind", 0, 3);
        x.due(BAD, "behind", 0, 4);
        x.due(1, "behind", 1, 2);
    }

    static void p17WhatWithTenGuards() {
        x.call("deal", 10);
        x.call("set", 9, DOUBT, 60);
        x.due(60, "behind", 0, 13);
        x.due(BAD, "behind", 0, 14);
    }

    static void p17WithoutTheBoundOfTheNight() {
        x.call("guard", LANTERN, 5, 0);
        x.call("rule", RAIN, 0);
        nightsUntil(9999);
        int lost = x.call("border", 2);
        x.due(lost + 100, "behind", 100, 2);
        x.call("set", 0, DOUBT, 0);
        // By NIGHT 9999 it LOOKS 80, by NIGHT 10000 it LOOKS 60.
        x.due(80, "behind", 0, 3);
        x.due(60, "behind", 1, 3);
        x.due(9999, "count", 1);
    }

    // ---- 18 bluff

    /** Who is seen six times, each time with 9 more DOUBT, is COUNTED no more: then there is a RAID. */
    private static void doubtedAtTheSixthSight() {
        x.call("guard", STRAW, 0, 0);
        x.call("rule", SIGHT, 0);
        x.call("rule", RAIN, 0);
        x.call("rule", COURAGE, 1);
        x.text("look 1");
    }

    /** The z from which watchers look from POST 0 for the sixth time in this NIGHT. */
    private static int seedOfSixthSight(int night) {
        for (int z = 0; z < 1000000; z++) {
            int at = z;
            int sights = 0;
            for (int n = 1; n <= night && sights < 6; n++) {
                sights += drawnFrom(behind(at, 1)) % 20 == 0 ? 1 : 0;
                if (sights == 6 && n == night) {
                    return z;
                }
                at = behind(at, 3);
            }
        }
        throw new IllegalStateException("no such z");
    }

    static void p18TheFirstNight() {
        x.due(1, "bluff");
        furnish();
        x.call("rule", COURAGE, 999);
        x.asked(1, "bluff");
    }

    static void p18TheLastNights() {
        doubtedAtTheSixthSight();
        for (int night : new int[] {40, 199, 200}) {
            x.call("seed", seedOfSixthSight(night));
            x.asked(night, "bluff");
        }
    }

    static void p18NotByThen() {
        doubtedAtTheSixthSight();
        x.call("seed", seedOfSixthSight(201));
        x.asked(NONE, "bluff");
        x.call("nights", 1);
        x.asked(200, "bluff");
    }

    static void p18Courage0() {
        x.call("rule", COURAGE, 0);
        x.asked(NONE, "bluff");
    }

    static void p18TheNightThatIsNowIsNotAsked() {
        x.call("guard", STRAW, 10, 0);
        x.call("guard", MAN, 11, 0);
        x.call("set", 0, UP, 0);
        x.call("rule", COURAGE, 150);
        x.call("rule", RAIN, 0);
        // Now only 99 are COUNTED, but the MAN sets the other one up first.
        x.call("seed", seedOf(50, 0, 50));
        Checks.holds("p18: COUNTED is below COURAGE now", x.call("border", 3) < 150);
        Checks.holds("p18: not at once", x.call("bluff") != 1);
    }

    static void p18WithoutTheBoundOfTheNight() {
        x.call("guard", MAN, 5, 0);
        x.call("rule", COURAGE, 99);
        nightsUntil(9999);
        x.asked(NONE, "bluff");
        x.call("rule", COURAGE, 100);
        x.asked(1, "bluff");
    }

    // ---- 19 washed

    static void p19NIs1To60() {
        furnish();
        refusedWith(BAD, outside(1, 60), "washed", 0, 1, 0);
        for (int n : new int[] {1, 60}) {
            int most = MIN;
            int best = NONE;
            for (int g = 0; g < 7; g++) {
                Run washed = x.again();
                washed.call("set", g, WEAR, 0);
                washed.call("nights", n);
                int counted = washed.call("border", 3);
                best = counted > most ? g : best;
                most = Math.max(most, counted);
            }
            x.asked(best, "washed", n, 0);
            x.asked(most, "washed", n, 1);
        }
    }

    static void p19WhatIs0Or1() {
        furnish();
        refusedWith(BAD, outside(0, 1), "washed", 1, 1, 0);
    }

    static void p19NoGuards() {
        x.asked(NONE, "washed", 1, 0);
        x.asked(NONE, "washed", 60, 1);
    }

    static void p19OfSeveralTheFirst() {
        x.refused(BAD, "washed", 0, 0);
        x.refused(BAD, "washed", 61, 0);
        x.refused(BAD, "washed", 1, 2);
    }

    static void p19OfSeveralTheLeast() {
        x.call("guard", MAN, 0, 0);
        x.call("guard", STRAW, 9, 20);
        x.call("guard", STRAW, 10, 20);
        x.call("seed", seedOf(99, 19, 99));
        x.due(1, "washed", 1, 0);
        x.due(99 + 60 + 50, "washed", 1, 1);
        x.call("set", 1, WEAR, 18);
        x.due(2, "washed", 1, 0);
        x.call("set", 1, WEAR, 1);
        x.call("set", 2, WEAR, 1);
        x.due(0, "washed", 1, 0);
    }

    static void p19NoneIsCounted() {
        x.call("guard", STRAW, 9, 20);
        x.call("guard", STRAW, 10, 20);
        x.call("set", 0, DOUBT, 99);
        x.call("set", 1, DOUBT, 99);
        x.due(0, "washed", 1, 0);
        x.due(0, "washed", 1, 1);
    }

    static void p19TheLastOfTen() {
        for (int g = 0; g < 10; g++) {
            x.call("guard", STRAW, g, g == 9 ? 40 : 0);
        }
        x.call("seed", seedOf(99, 19, 99));
        x.due(9, "washed", 1, 0);
        x.due(600, "washed", 1, 1);
    }

    static void p19WithoutTheBoundOfTheNight() {
        x.call("guard", LANTERN, 5, 0);
        x.call("rule", RAIN, 0);
        nightsUntil(9999);
        x.call("set", 0, DOUBT, 0);
        x.call("seed", seedOf(99, 19, 99));
        x.asked(60, "washed", 1, 1);
    }

    // ---- 20 needed

    static void p20NIs1To60() {
        furnish();
        refusedWith(BAD, outside(1, 60), "needed", 0, 1);
        x.call("rule", COURAGE, 0);
        x.asked(0, "needed", 1);
        x.asked(0, "needed", 60);
    }

    /** The RAID comes in the NIGHT of this number: it is the last one that n asks about. */
    static void p20NoRaidInNNights() {
        for (int night : new int[] {40, 60}) {
            x = new Run("p20 a RAID in NIGHT " + night);
            doubtedAtTheSixthSight();
            x.call("seed", seedOfSixthSight(night));
            x.asked(0, "needed", night - 1);
            x.asked(NONE, "needed", night);
        }
    }

    static void p20WithNone() {
        x.due(NONE, "needed", 1);
        x.due(NONE, "needed", 60);
        x.due(3, "count", 2);
    }

    private static void neededAt(int post, int from, int want) {
        x = new Run("p20 a MAN at POST " + post + ", looked at from " + from);
        // DOUBT 52 is 49 if it is seen: then it is COUNTED.
        x.call("guard", MAN, post, 0);
        x.call("set", 0, DOUBT, 52);
        x.call("rule", COURAGE, 99);
        x.call("seed", seedOf(50, from, 50));
        x.asked(want, "needed", 1);
    }

    static void p20SightIs0To19() {
        neededAt(10, 10, 0);
        neededAt(10, 11, 1);
        neededAt(0, 18, 18);
        neededAt(0, 19, 19);
        neededAt(19, 0, 19);
        neededAt(19, 19, 0);
    }

    static void p20SightStaysAndIsOfNoMatter() {
        neededAt(10, 14, 4);
        for (int sight : new int[] {0, 19}) {
            x.call("rule", SIGHT, sight);
            x.asked(4, "needed", 1);
        }
    }

    static void p20WithoutTheBoundOfTheNight() {
        x.call("guard", MAN, 5, 0);
        nightsUntil(9999);
        x.due(NONE, "needed", 60);
        x.call("rule", COURAGE, 99);
        x.due(0, "needed", 60);
    }

    // ---- 21 becomes

    static void p21GuardsAreThoseThatThereAre() {
        x.due(BAD, "becomes", 0, 1, 0);
        furnish();
        refusedWith(BAD, outside(0, 6), "becomes", 0, 0, 1, 0);
    }

    static void p21NIs1To60() {
        furnish();
        refusedWith(BAD, outside(1, 60), "becomes", 1, 0, 1, 0);
        for (int n : new int[] {1, 60}) {
            for (int g = 0; g < 7; g += 6) {
                int most = MIN;
                int best = NONE;
                for (int kind = 0; kind < 6; kind++) {
                    Run turned = x.again();
                    turned.call("turns", g, kind);
                    turned.call("nights", n);
                    int counted = turned.call("border", 3);
                    best = counted > most ? kind : best;
                    most = Math.max(most, counted);
                }
                x.asked(best, "becomes", g, n, 0);
                x.asked(most, "becomes", g, n, 1);
            }
        }
    }

    static void p21WhatIs0Or1() {
        furnish();
        refusedWith(BAD, outside(0, 1), "becomes", 2, 0, 1, 0);
    }

    static void p21OfSeveralTheLeast() {
        x.call("guard", GENERAL, 10, 0);
        x.call("set", 0, DOUBT, 99);
        x.asked(0, "becomes", 0, 1, 0);
        x.asked(0, "becomes", 0, 1, 1);
        x.call("set", 0, DOUBT, 0);
        x.call("set", 0, WEAR, 99);
        x.text("look 0");
        x.call("seed", seedOf(99, 0, 99));
        // STRAW 0, COATED 12, MAN 99, GENERAL 24, SENTRY 99, LANTERN 0 by an odd NIGHT 20.
        x.asked(MAN, "becomes", 0, 1, 0);
        x.asked(99, "becomes", 0, 1, 1);
    }

    static void p21OneThatIsNotUp() {
        x.call("guard", STRAW, 10, 0);
        x.call("guard", MAN, 12, 0);
        x.call("guard", STRAW, 14, 0);
        x.call("set", 0, UP, 0);
        x.call("set", 2, UP, 0);
        x.call("seed", seedOf(99, 0, 99));
        // Any KIND is set up by the other one; as GENERAL it LOOKS 144.
        x.asked(GENERAL, "becomes", 0, 1, 0);
        x.asked(144 + 99, "becomes", 0, 1, 1);
    }

    static void p21TheKindStays() {
        furnish();
        x.asked(x.call("becomes", 4, 60, 0), "becomes", 4, 60, 0);
        x.due(SENTRY, "told", 4, 0);
    }

    static void p21WithoutTheBoundOfTheNight() {
        x.call("guard", LANTERN, 5, 0);
        x.call("rule", RAIN, 0);
        nightsUntil(9999);
        x.call("set", 0, DOUBT, 0);
        x.text("look 89");
        x.call("turns", 0, STRAW);
        x.call("set", 0, UP, 1);
        x.call("seed", seedOf(99, 19, 99));
        // By NIGHT 10000 a LANTERN LOOKS no more than STRAW: GENERAL 202.
        x.asked(202, "becomes", 0, 1, 1);
        x.text("look 9");
        x.asked(MAN, "becomes", 0, 1, 0);
    }

    // ---- 22 like

    static void p22SheetsAre0To3() {
        furnish();
        refusedWith(BAD, outside(0, 3), "like", 0, 0, 0);
        x.asked(0, "like", 3, 0);
    }

    static void p22WhatIs0Or1() {
        furnish();
        refusedWith(BAD, outside(0, 1), "like", 1, 0, 0);
    }

    static void p22ThatSheetIsMissing() {
        furnish();
        x.refused(NOTHING, "like", 2, 0);
        x.call("sheet", 2, 0, 0);
        x.asked(0, "like", 2, 0);
    }

    static void p22NoGuards() {
        x.call("sheet", 1, 1, 3);
        x.asked(NONE, "like", 1, 0);
        x.asked(NONE, "like", 1, 1);
    }

    static void p22OfSeveralTheFirst() {
        x.refused(BAD, "like", 0, 2);
        x.refused(BAD, "like", 4, 0);
        x.refused(NOTHING, "like", 0, 0);
        x.call("sheet", 1, 1, 3);
        x.refused(BAD, "like", 1, 2);
    }

    static void p22NoPlacesOrNoNumbers() {
        x.call("guard", MAN, 5, 0);
        x.call("guard", MAN, 6, 0);
        x.call("set", 0, DOUBT, 60);
        x.sheet(0, 0);
        x.asked(0, "like", 0, 0);
        x.asked(0, "like", 0, 1);
        x.sheet(0, 1, NONE, NONE);
        x.asked(0, "like", 0, 0);
        x.asked(0, "like", 0, 1);
        x.sheet(0, 1, NONE, 0);
        x.asked(1, "like", 0, 0);
    }

    static void p22KFrom0On() {
        x.call("guard", MAN, 5, 0);
        x.call("rule", SIGHT, 19);
        x.call("set", 0, DOUBT, 90);
        // It is seen each NIGHT, and 3 less doubted: 90 behind none, 87 behind one, 21 behind 23.
        x.sheet(0, 0, 90);
        x.asked(0, "like", 0, 1);
        x.sheet(0, 0, 90, 87);
        x.asked(0, "like", 0, 1);
        x.sheet(0, 0, 89, 89);
        x.asked(3, "like", 0, 1);
        int[] all = new int[24];
        for (int k = 0; k < 24; k++) {
            all[k] = 90 - 3 * k;
        }
        x.sheet(0, 0, all);
        x.asked(0, "like", 0, 1);
        all[23]++;
        x.sheet(0, 0, all);
        x.asked(1, "like", 0, 1);
    }

    static void p22PlacesThatAreNoNumbersTakeANightToo() {
        x.call("guard", MAN, 5, 0);
        x.call("rule", SIGHT, 19);
        x.call("set", 0, DOUBT, 90);
        x.sheet(0, 1, NONE, NONE, 84);
        x.asked(0, "like", 0, 1);
    }

    static void p22SignsAreLeftOut() {
        x.call("guard", MAN, 5, 0);
        x.call("set", 0, DOUBT, 50);
        x.call("rule", SIGHT, 19);
        x.sheet(0, 0, 40, 57);
        x.asked(20, "like", 0, 1);
        x.sheet(0, 0, -1, -1);
        x.asked(51 + 48, "like", 0, 1);
    }

    static void p22OfSeveralTheLeast() {
        x.call("guard", MAN, 5, 0);
        x.call("guard", MAN, 6, 0);
        x.call("guard", MAN, 7, 0);
        x.call("set", 0, DOUBT, 11);
        x.call("set", 1, DOUBT, 9);
        x.call("set", 2, DOUBT, 10);
        x.sheet(0, 0, 10);
        x.asked(2, "like", 0, 0);
        x.asked(0, "like", 0, 1);
        x.call("set", 2, DOUBT, 12);
        x.asked(0, "like", 0, 0);
        x.call("set", 0, DOUBT, 13);
        x.asked(1, "like", 0, 0);
        x.asked(1, "like", 0, 1);
    }

    static void p22TheLastOfTen() {
        for (int g = 0; g < 10; g++) {
            x.call("guard", MAN, 2 * g, 0);
            x.call("set", g, DOUBT, 80 - g);
        }
        x.call("rule", SIGHT, 19);
        x.sheet(0, 0, 70, 68);
        x.asked(9, "like", 0, 0);
        x.asked(1, "like", 0, 1);
    }

    static void p22AsFarAsCanBe() {
        x.call("guard", MAN, 5, 0);
        x.call("rule", SIGHT, 0);
        x.call("set", 0, DOUBT, 0);
        int[] far = new int[24];
        Arrays.fill(far, -99999);
        x.sheet(0, 1, far);
        x.asked(24 * 99999, "like", 0, 1);
        x.sheet(1, 0, -32768, 32767);
        x.asked(65535, "like", 1, 1);
    }

    static void p22WithoutTheBoundOfTheNight() {
        x.call("guard", MAN, 5, 0);
        x.call("rule", SIGHT, 19);
        nightsUntil(9999);
        x.call("set", 0, DOUBT, 50);
        x.sheet(0, 0, 50, 47, 44);
        x.asked(0, "like", 0, 1);
    }

    // ---- 23 fee

    static void p23WithoutAText() {
        x.due(0, "fee");
        x.call("rule", FORCE, 0);
        x.call("nights", 2);
        x.call("rule", FORCE, 1);
        x.call("nights", 1);
        x.due(2, "fee");
        x.text("look 7");
        x.text("fine 8");
        x.asked(2, "fee");
        x.text("fee l");
        x.asked(1, "fee");
    }

    static void p23IntsWrap() {
        Object[][] rows = {{"9999*9999*21", 9999 * 9999 * 21}, {"9999*9999*22", 9999 * 9999 * 22},
            {"2048*1024*1024-1", MAX}, {"2048*1024*1024", MIN}, {"0-2048*1024*1024", MIN},
            {"2048*1024*1024-1+1", MIN}, {"0-2048*1024*1024-1", MAX}, {"2048*1024*1024/(0-1)", MIN},
            {"2048*1024*1024*2", 0}, {"2048*1024*1024<0", 1}};
        for (Object[] row : rows) {
            x.call("keep");
            x.text("fee " + row[0]);
            x.due((Integer) row[1], "fee");
            x.call("back");
        }
    }

    static void p23ByZeroIs0() {
        String[] texts = {"7/0", "0/0", "(0-7)/0", "7/(h-l)", "h/l", "2048*1024*1024/0"};
        for (String text : texts) {
            x.text("fee " + text);
            x.due(0, "fee");
        }
        x.text("fee 7/0+5");
        x.due(5, "fee");
    }

    static void p23DivisionCutsTowards0() {
        Object[][] rows = {{"7/2", 3}, {"(0-7)/2", -3}, {"7/(0-2)", -3}, {"(0-7)/(0-2)", 3}, {"1/2", 0}, {"(0-1)/2", 0}};
        for (Object[] row : rows) {
            x.text("fee " + row[0]);
            x.due((Integer) row[1], "fee");
        }
    }

    static void p23ItIsNotHeld() {
        x.text("fee 0-1");
        x.due(-1, "fee");
        x.text("fee 100");
        x.due(100, "fee");
        x.text("fee 9999");
        x.due(9999, "fee");
    }

    static void p23NothingChanges() {
        furnish();
        x.asked(10 * x.call("border", 1) + x.call("border", 2) + 7, "fee");
    }

    // ---- 24 fine

    static void p24GuardsAreThoseThatThereAre() {
        x.due(BAD, "fine", 0);
        x.text("fine 7");
        x.due(BAD, "fine", 0);
        furnish();
        x.asked(x.call("told", 0, WEAR) + 33 + 5, "fine", 0);
        x.asked(7 + 0 + 5, "fine", 6);
        refusedWith(BAD, outside(0, 6), "fine", 0, 0);
    }

    static void p24WithoutAText() {
        x.call("guard", STRAW, 5, 70);
        x.due(0, "fine", 0);
        x.call("set", 0, DOUBT, 99);
        x.due(99, "fine", 0);
        x.text("look 1");
        x.text("fee 2");
        x.due(99, "fine", 0);
    }

    static void p24ItIsNotHeld() {
        x.call("guard", STRAW, 5, 99);
        x.text("fine 0-w");
        x.due(-99, "fine", 0);
        x.text("fine w+1");
        x.due(100, "fine", 0);
        x.text("fine 9999*9999*w");
        x.due(9999 * 9999 * 99, "fine", 0);
    }

    static void p24ByZeroIs0() {
        x.call("guard", STRAW, 5, 99);
        x.text("fine w/d");
        x.due(0, "fine", 0);
        x.call("set", 0, DOUBT, 2);
        x.due(49, "fine", 0);
    }

    public static void main(String[] args) throws Exception {
        runAll(ThoughtBoundaryTest.class, 15, 24);
    }
}
