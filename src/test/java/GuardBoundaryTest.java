/** The boundary cases of promises 1 to 11: a new object, GUARDS, POSTS, RULES, what is drawn. */
public final class GuardBoundaryTest extends Boundary {

    // ---- 1 a new object

    static void p01ThereAreNoGuards() {
        x.due(0, "count", 0);
        x.due(BAD, "told", 0, 0);
        for (int post = 0; post < 20; post++) {
            x.due(NONE, "at", post);
            x.due(0, "seen", post);
        }
    }

    static void p01NothingIsToldOfTheBorder() {
        for (int what = 0; what < 7; what++) {
            x.due(0, "border", what);
        }
    }

    static void p01TheNightIs0AndZIs1() {
        x.due(0, "count", 1);
        x.due(1, "count", 9);
    }

    static void p01RulesAreAsTold() {
        x.due(3, "count", 2);
        x.due(30, "count", 3);
        x.due(200, "count", 4);
        x.due(20, "count", 5);
    }

    static void p01ThereAreNoTexts() {
        x.due(0, "count", 6);
        x.due(BAD, "textTold", 0, 0);
        for (int key = 0; key < 3; key++) {
            x.due(NONE, "why", key);
        }
        x.due(0, "fee");
    }

    static void p01NoNumbersWaitAndTheTapeIsEmpty() {
        x.due(0, "count", 7);
        x.due(0, "count", 8);
        x.due(BAD, "trim", 1);
    }

    static void p01SheetsAreMissing() {
        for (int sheet = 0; sheet < 4; sheet++) {
            x.due(NOTHING, "mark", sheet, 0, 0);
        }
    }

    static void p01SlotsHoldNothing() {
        for (int slot = 0; slot < 5; slot++) {
            x.due(NOTHING, "ask", slot, 0);
            x.due(0, "lay", slot, 0, 0);
        }
    }

    static void p01ThereIsNoImage() {
        x.due(NO, "back");
        x.due(NO, "check", 1);
    }

    static void p01AnotherObjectIsNew() {
        furnish();
        x = new Run("p01AnotherObjectIsNew");
        p01ThereAreNoGuards();
        p01NothingIsToldOfTheBorder();
        p01TheNightIs0AndZIs1();
        p01RulesAreAsTold();
        p01ThereAreNoTexts();
        p01NoNumbersWaitAndTheTapeIsEmpty();
        p01SheetsAreMissing();
        p01SlotsHoldNothing();
        p01ThereIsNoImage();
    }

    static void p01All512Calls() {
        for (int i = 1; i <= 511; i++) {
            x.due(i, "seed", i + 1);
        }
        x.due(512, "seed", 0);
        x = new Run("p01All512Calls");
        x.call("keep");
        for (int i = 0; i < 73; i++) {
            x.tape("fee " + (10 + i));
            x.due(0, "text");
            x.due(10 + i, "fee");
            x.due(0, "back");
            x.due(0, "count", 6);
        }
    }

    // ---- 2 guard

    static void p02KindsAre0To5() {
        x.due(0, "guard", 0, 1, 1);
        x.due(1, "guard", 5, 2, 1);
        furnish();
        refusedWith(BAD, outside(0, 5), "guard", 0, 0, 1, 1);
    }

    static void p02PostsAre0To19() {
        x.due(0, "guard", STRAW, 0, 1);
        x.due(1, "guard", STRAW, 19, 1);
        x.due(0, "told", 0, POST);
        x.due(19, "told", 1, POST);
        x = new Run("p02PostsAre0To19");
        furnish();
        refusedWith(BAD, outside(0, 19), "guard", 1, STRAW, 1, 1);
    }

    static void p02WearIs0To99() {
        x.due(0, "guard", STRAW, 1, 0);
        x.due(1, "guard", STRAW, 2, 99);
        x.due(0, "told", 0, WEAR);
        x.due(99, "told", 1, WEAR);
        x = new Run("p02WearIs0To99");
        furnish();
        refusedWith(BAD, outside(0, 99), "guard", 2, STRAW, 1, 1);
    }

    static void p02ThePostIsSomebodys() {
        furnish();
        for (int kind = 0; kind < 6; kind++) {
            x.refused(NO, "guard", STRAW, 3 * kind, 1);
        }
        x.refused(NO, "guard", STRAW, 19, 1);
        x.due(7, "guard", STRAW, 1, 1);
        x.refused(NO, "guard", STRAW, 1, 1);
    }

    static void p02APostThatWasLeftIsNobodys() {
        x.due(0, "guard", STRAW, 4, 1);
        x.due(4, "moves", 0, 5);
        x.refused(NO, "guard", STRAW, 5, 1);
        x.due(1, "guard", STRAW, 4, 1);
    }

    static void p02TenAndNoMore() {
        furnish();
        x.due(7, "guard", STRAW, 1, 1);
        x.due(8, "guard", STRAW, 2, 1);
        x.due(9, "guard", STRAW, 4, 1);
        x.refused(FULL, "guard", STRAW, 5, 1);
        x.due(10, "count", 0);
    }

    static void p02OfSeveralTheFirst() {
        furnish();
        x.refused(BAD, "guard", 6, 0, 1);
        x.refused(BAD, "guard", STRAW, 0, 100);
        x.call("deal", 10);
        int free = x.call("at", 1) == NONE ? 1 : x.call("at", 2) == NONE ? 2 : x.call("at", 4) == NONE ? 4 : 5;
        x.refused(NO, "guard", STRAW, 0, 1);
        x.refused(BAD, "guard", 6, free, 1);
        x.refused(BAD, "guard", 0, free, 100);
        x.refused(FULL, "guard", STRAW, free, 1);
    }

    static void p02ANewOneIsUpAndNotDoubted() {
        furnish();
        x.due(7, "guard", GENERAL, 1, 40);
        x.due(GENERAL, "told", 7, 0);
        x.due(1, "told", 7, POST);
        x.due(40, "told", 7, WEAR);
        x.due(0, "told", 7, DOUBT);
        x.due(1, "told", 7, UP);
    }

    static void p02ARefusedOneTakesNoNumber() {
        x.due(0, "guard", STRAW, 0, 0);
        x.due(NO, "guard", STRAW, 0, 0);
        x.due(BAD, "guard", STRAW, 1, 100);
        x.due(1, "guard", STRAW, 1, 0);
    }

    static void p02OneBehindAnImageTakesTheNextNumberAnew() {
        x.call("guard", STRAW, 0, 0);
        x.call("keep");
        x.due(1, "guard", STRAW, 1, 50);
        x.call("set", 1, DOUBT, 70);
        x.call("set", 1, UP, 0);
        x.call("back");
        x.due(1, "guard", MAN, 2, 3);
        x.due(0, "told", 1, DOUBT);
        x.due(1, "told", 1, UP);
    }

    // ---- 3 told

    static void p03ThereAreNoGuards() {
        for (int what = 0; what < 9; what++) {
            x.due(BAD, "told", 0, what);
        }
    }

    static void p03GuardsAreThoseThatThereAre() {
        furnish();
        x.asked(STRAW, "told", 0, 0);
        x.asked(STRAW, "told", 6, 0);
        refusedWith(BAD, outside(0, 6), "told", 0, 0, 0);
    }

    static void p03WhatIs0To8() {
        furnish();
        x.asked(STRAW, "told", 6, 0);
        x.asked(7, "told", 6, WORTH);
        refusedWith(BAD, outside(0, 8), "told", 1, 6, 0);
    }

    static void p03HalfOfWearIsCut() {
        int[][] rows = {{0, 60, 0}, {1, 60, 0}, {2, 59, 1}, {3, 59, 1}, {97, 12, 48}, {98, 11, 49}, {99, 11, 49}};
        x.call("guard", STRAW, 0, 0);
        x.call("guard", COATED, 1, 0);
        x.call("guard", GENERAL, 2, 0);
        x.call("guard", LANTERN, 3, 0);
        for (int[] row : rows) {
            for (int g = 0; g < 4; g++) {
                x.call("set", g, WEAR, row[0]);
            }
            x.due(row[1], "told", 0, LOOKS);
            x.due(row[1] + 12, "told", 1, LOOKS);
            x.due(2 * (row[1] + 12), "told", 2, LOOKS);
            x.due(row[2], "told", 0, FALLS);
            x.due(row[2] + 4, "told", 1, FALLS);
            x.due(row[2] + 4, "told", 2, FALLS);
            x.due(2 * row[2], "told", 3, FALLS);
        }
    }

    static void p03AMansWearIsOfNoMatterForLooksAndFalls() {
        x.call("guard", MAN, 0, 0);
        x.call("guard", SENTRY, 1, 99);
        for (int g = 0; g < 2; g++) {
            x.due(99, "told", g, LOOKS);
            x.due(0, "told", g, FALLS);
        }
        x.due(10, "told", 0, FIGHTS);
        x.due(15, "told", 1, FIGHTS);
    }

    static void p03OnlyWhoLivesFights() {
        for (int kind = 0; kind < 6; kind++) {
            x.call("guard", kind, kind, 0);
            x.due(kind == MAN ? 10 : kind == SENTRY ? 15 : 0, "told", kind, FIGHTS);
        }
    }

    static void p03WorthAtTheEndsOfWear() {
        int[][] worth = {{0, 99}, {5, 104}, {99, 0}, {10, 208}, {92, -7}, {8, 8}};
        for (int kind = 0; kind < 6; kind++) {
            x.call("guard", kind, kind, 0);
            x.due(worth[kind][0], "told", kind, WORTH);
            x.call("set", kind, WEAR, 99);
            x.due(worth[kind][1], "told", kind, WORTH);
        }
        x.call("set", SENTRY, WEAR, 92);
        x.due(0, "told", SENTRY, WORTH);
        x.call("set", SENTRY, WEAR, 93);
        x.due(-1, "told", SENTRY, WORTH);
    }

    static void p03PlainLookIs0AtLeast() {
        for (int kind = 0; kind < 6; kind++) {
            x.call("guard", kind, kind, 0);
        }
        String[] texts = {"look 1", "look 0", "look 0-1", "look 0-9999*9999", "look 9999*9999*22"};
        for (int i = 0; i < texts.length; i++) {
            int plain = i == 0 ? 1 : 0;
            x.text(texts[i]);
            int[] looks = {plain, plain + 12, 99, 2 * plain + 24, 99, plain};
            for (int kind = 0; kind < 6; kind++) {
                x.due(looks[kind], "told", kind, LOOKS);
            }
        }
    }

    static void p03PlainLookIs99AtMost() {
        for (int kind = 0; kind < 6; kind++) {
            x.call("guard", kind, kind, 0);
        }
        String[] texts = {"look 98", "look 99", "look 100", "look 9999*9999"};
        for (int i = 0; i < texts.length; i++) {
            int plain = i == 0 ? 98 : 99;
            x.text(texts[i]);
            int[] looks = {plain, plain + 12, 99, 2 * plain + 24, 99, plain};
            for (int kind = 0; kind < 6; kind++) {
                x.due(looks[kind], "told", kind, LOOKS);
            }
        }
    }

    static void p03ALanternByAnOddNight() {
        x.call("guard", LANTERN, 0, 0);
        x.call("rule", RAIN, 0);
        x.due(60, "told", 0, LOOKS);
        x.call("nights", 1);
        x.due(80, "told", 0, LOOKS);
        x.call("nights", 1);
        x.due(60, "told", 0, LOOKS);
        x.text("look 99");
        x.call("nights", 1);
        x.due(119, "told", 0, LOOKS);
        nightsUntil(9998);
        x.due(99, "told", 0, LOOKS);
        nightsUntil(9999);
        x.due(119, "told", 0, LOOKS);
    }

    // ---- 4 as

    static void p04GuardsAreThoseThatThereAre() {
        x.due(BAD, "as", 0, STRAW);
        furnish();
        x.asked(x.call("told", 0, WEAR), "as", 0, STRAW);
        x.asked(7, "as", 6, STRAW);
        refusedWith(BAD, outside(0, 6), "as", 0, 0, STRAW);
    }

    static void p04KindsAre0To5() {
        furnish();
        x.asked(x.call("told", 5, WEAR), "as", 5, 0);
        x.asked(x.call("told", 5, WEAR), "as", 5, 5);
        refusedWith(BAD, outside(0, 5), "as", 1, 5, 0);
    }

    static void p04ItIsNotOfThatKind() {
        String[] is = {"x.....", "xx....", "x.x...", "xx.x..", "x.x.x.", "x....x"};
        for (int kind = 0; kind < 6; kind++) {
            x.call("guard", kind, kind, 50 + kind);
        }
        for (int kind = 0; kind < 6; kind++) {
            for (int other = 0; other < 6; other++) {
                x.asked(is[kind].charAt(other) == 'x' ? 50 + kind : KIND, "as", kind, other);
            }
        }
    }

    static void p04WearAtItsEnds() {
        x.call("guard", SENTRY, 0, 0);
        x.due(0, "as", 0, MAN);
        x.call("set", 0, WEAR, 99);
        x.due(99, "as", 0, MAN);
    }

    // ---- 5 turns

    static void p05GuardsAreThoseThatThereAre() {
        x.due(BAD, "turns", 0, STRAW);
        furnish();
        refusedWith(BAD, outside(0, 6), "turns", 0, 0, STRAW);
        x.due(STRAW, "turns", 0, MAN);
        x.due(STRAW, "turns", 6, MAN);
    }

    static void p05KindsAre0To5() {
        furnish();
        refusedWith(BAD, outside(0, 5), "turns", 1, 2, STRAW);
        x.due(MAN, "turns", 2, 5);
        x.due(5, "turns", 2, 0);
        x.due(0, "told", 2, 0);
    }

    static void p05ToItsOwnKind() {
        furnish();
        for (int kind = 0; kind < 6; kind++) {
            x.asked(kind, "turns", kind, kind);
        }
    }

    static void p05AllElseStays() {
        furnish();
        x.call("set", 1, DOUBT, 77);
        int wear = x.call("told", 1, WEAR);
        x.due(COATED, "turns", 1, SENTRY);
        x.due(3, "told", 1, POST);
        x.due(wear, "told", 1, WEAR);
        x.due(77, "told", 1, DOUBT);
        x.due(0, "told", 1, UP);
    }

    // ---- 6 set

    static void p06GuardsAreThoseThatThereAre() {
        for (int what = 2; what <= 4; what++) {
            x.due(BAD, "set", 0, what, 0);
        }
        furnish();
        for (int what = 2; what <= 4; what++) {
            refusedWith(BAD, outside(0, 6), "set", 0, 0, what, 1);
        }
        x.due(33, "set", 0, DOUBT, 1);
        x.due(7, "set", 6, WEAR, 1);
    }

    static void p06WhatIs2To4() {
        furnish();
        refusedWith(BAD, new int[] {0, 1, 5, 6, -1, MIN, MAX}, "set", 1, 0, 2, 1);
        x.due(33, "set", 0, 3, 34);
    }

    static void p06WearIs0To99() {
        furnish();
        refusedWith(BAD, outside(0, 99), "set", 2, 6, WEAR, 0);
        x.due(7, "set", 6, WEAR, 0);
        x.due(0, "set", 6, WEAR, 99);
        x.due(99, "told", 6, WEAR);
    }

    static void p06DoubtIs0To99() {
        furnish();
        refusedWith(BAD, outside(0, 99), "set", 2, 0, DOUBT, 0);
        x.due(33, "set", 0, DOUBT, 0);
        x.due(0, "set", 0, DOUBT, 99);
        x.due(99, "told", 0, DOUBT);
    }

    static void p06UpIs0Or1() {
        furnish();
        refusedWith(BAD, outside(0, 1), "set", 2, 1, UP, 0);
        refusedWith(BAD, new int[] {50, 99}, "set", 2, 1, UP, 0);
        x.due(0, "set", 1, UP, 1);
        x.due(1, "set", 1, UP, 0);
        x.due(0, "told", 1, UP);
    }

    static void p06ToWhatItIs() {
        furnish();
        x.asked(33, "set", 0, DOUBT, 33);
        x.asked(7, "set", 6, WEAR, 7);
        x.asked(0, "set", 1, UP, 0);
    }

    static void p06OneNumberAlone() {
        furnish();
        x.due(7, "set", 6, WEAR, 50);
        x.due(0, "told", 6, DOUBT);
        x.due(1, "told", 6, UP);
        x.due(19, "told", 6, POST);
        x.due(33, "told", 0, DOUBT);
        x.due(33, "set", 0, DOUBT, 99);
        x.due(0, "told", 6, DOUBT);
    }

    static void p06FallenIsWhomTheWindTakes() {
        x.call("guard", STRAW, 0, 0);
        x.call("set", 0, UP, 0);
        x.due(0, "border", 0);
    }

    // ---- 7 moves

    static void p07GuardsAreThoseThatThereAre() {
        x.due(BAD, "moves", 0, 1);
        furnish();
        refusedWith(BAD, outside(0, 6), "moves", 0, 0, 1);
        x.due(0, "moves", 0, 1);
        x.due(19, "moves", 6, 0);
    }

    static void p07PostsAre0To19() {
        furnish();
        refusedWith(BAD, outside(0, 19), "moves", 1, 6, 1);
        x.due(19, "moves", 6, 18);
        x.due(18, "moves", 6, 19);
        x.due(0, "moves", 0, 1);
        x.due(1, "moves", 0, 0);
        x.due(0, "told", 0, POST);
        x.due(19, "told", 6, POST);
    }

    static void p07ThatIsSomebodys() {
        furnish();
        for (int kind = 0; kind < 6; kind++) {
            x.refused(NO, "moves", 6, 3 * kind);
        }
    }

    static void p07ItsOwnToo() {
        furnish();
        x.refused(NO, "moves", 6, 19);
        x.refused(NO, "moves", 0, 0);
    }

    static void p07OfSeveralTheFirst() {
        furnish();
        x.refused(BAD, "moves", 7, 3);
        x.refused(BAD, "moves", -1, 0);
    }

    static void p07TheLeftPostIsNobodys() {
        furnish();
        x.due(0, "moves", 0, 1);
        x.due(NONE, "at", 0);
        x.due(0, "at", 1);
        x.due(3, "moves", 1, 0);
        x.due(1, "at", 0);
    }

    // ---- 8 at

    static void p08PostsAre0To19() {
        x.due(NONE, "at", 0);
        x.due(NONE, "at", 19);
        furnish();
        x.asked(0, "at", 0);
        x.asked(6, "at", 19);
        refusedWith(BAD, outside(0, 19), "at", 0, 0);
    }

    static void p08ItIsNobodys() {
        furnish();
        x.asked(NONE, "at", 1);
        x.asked(NONE, "at", 18);
        x.asked(5, "at", 15);
    }

    // ---- 9 rule

    static void p09WhatIs0To3() {
        furnish();
        refusedWith(BAD, outside(0, 3), "rule", 0, 0, 0);
        x.due(5, "rule", 0, 6);
        x.due(10, "rule", 3, 11);
    }

    private static void ruleIs(int what, int was, int most) {
        furnish();
        refusedWith(BAD, outside(0, most), "rule", 1, what, 0);
        x.due(was, "rule", what, 0);
        x.due(0, "rule", what, most);
        x.due(most, "count", 2 + what);
        x.asked(most, "rule", what, most);
    }

    static void p09SightIs0To19() {
        ruleIs(SIGHT, 5, 19);
    }

    static void p09RainIs0To100() {
        ruleIs(RAIN, 60, 100);
    }

    static void p09CourageIs0To999() {
        ruleIs(COURAGE, 300, 999);
    }

    static void p09ForceIs0To999() {
        ruleIs(FORCE, 10, 999);
    }

    static void p09OneRuleAlone() {
        for (int what = 0; what < 4; what++) {
            x.call("rule", what, 11 + what);
        }
        for (int what = 0; what < 4; what++) {
            x.due(11 + what, "count", 2 + what);
        }
    }

    // ---- 10 deal

    static void p10NIs1To10() {
        furnish();
        refusedWith(BAD, outside(1, 10), "deal", 0, 1);
        x.due(1, "deal", 1);
        x = new Run("p10NIs1To10");
        x.due(10, "deal", 10);
        x.due(10, "count", 0);
    }

    static void p10AsManyAsThereIsRoomFor() {
        furnish();
        Run three = x.again();
        three.due(3, "deal", 3);
        Run four = x.again();
        four.due(3, "deal", 4);
        four.due(10, "count", 0);
        Run ten = x.again();
        ten.due(3, "deal", 10);
        Run two = x.again();
        two.due(2, "deal", 2);
        two.due(9, "count", 0);
    }

    static void p10NoDrawsForOthers() {
        furnish();
        int z = x.call("count", 9);
        Run four = x.again();
        four.call("deal", 4);
        four.due(behind(z, 9), "count", 9);
        Run two = x.again();
        two.call("deal", 2);
        two.due(behind(z, 6), "count", 9);
    }

    static void p10NoRoom() {
        furnish();
        x.due(3, "deal", 3);
        x.asked(0, "deal", 1);
        x.asked(0, "deal", 10);
        refusedWith(BAD, outside(1, 10), "deal", 0, 1);
    }

    /** The z from which the next GUARD that is drawn would have this POST. */
    private static int seedOfPost(int post) {
        for (int z = 0; z < 100000; z++) {
            if (drawnFrom(behind(z, 1)) % 20 == post) {
                return z;
            }
        }
        throw new IllegalStateException("no such z");
    }

    static void p10TheNextOneThatIsNobodys() {
        x.call("guard", STRAW, 7, 0);
        x.call("seed", seedOfPost(7));
        x.call("deal", 1);
        x.due(8, "told", 1, POST);
        x.call("seed", seedOfPost(7));
        x.call("deal", 1);
        x.due(9, "told", 2, POST);
        x.call("seed", seedOfPost(6));
        x.call("deal", 1);
        x.due(6, "told", 3, POST);
    }

    static void p10Round() {
        x.call("guard", STRAW, 19, 0);
        x.call("seed", seedOfPost(19));
        x.call("deal", 1);
        x.due(0, "told", 1, POST);
        x.call("seed", seedOfPost(19));
        x.call("deal", 1);
        x.due(1, "told", 2, POST);
    }

    static void p10NineInARow() {
        for (int i = 0; i < 9; i++) {
            x.call("guard", STRAW, (15 + i) % 20, 0);
        }
        x.call("seed", seedOfPost(15));
        x.call("deal", 1);
        x.due(4, "told", 9, POST);
    }

    static void p10WearIsBelow60AndKindBelow6() {
        boolean[] wears = new boolean[100];
        boolean[] kinds = new boolean[10];
        for (int seed = 0; seed < 200; seed++) {
            x = new Run("p10WearIsBelow60AndKindBelow6");
            x.call("seed", seed * 77777);
            x.call("deal", 10);
            for (int g = 0; g < 10; g++) {
                wears[x.call("told", g, WEAR)] = true;
                kinds[x.call("told", g, 0)] = true;
            }
        }
        for (int v = 0; v < 100; v++) {
            Checks.holds("p10WearIsBelow60 " + v, wears[v] == (v < 60));
        }
        for (int v = 0; v < 10; v++) {
            Checks.holds("p10KindBelow6 " + v, kinds[v] == (v < 6));
        }
    }

    // ---- 11 seed

    static void p11AnyNumber() {
        furnish();
        int was = x.call("count", 9);
        for (int v : new int[] {MIN, MAX, 0, -1, BAD, NONE}) {
            x.due(was, "seed", v);
            x.due(v, "count", 9);
            was = v;
        }
        x.asked(NONE, "seed", NONE);
    }

    static void p11ZWrapsAround() {
        for (int z : new int[] {MAX, MIN, 2, -3}) {
            x.call("seed", z);
            x.call("nights", 1);
            long wide = z;
            for (int i = 0; i < 3; i++) {
                wide = (int) (wide * 1103515245L + 12345L);
            }
            x.due((int) wide, "count", 9);
        }
    }

    /** z becomes -1 and more below 0: its rest is that of 24 bits above 0. */
    static void p11ADrawIsNeverBelow0() {
        int below = 0;
        for (int z = 0; z < 40; z++) {
            x = new Run("p11ADrawIsNeverBelow0");
            x.call("seed", z);
            x.call("deal", 1);
            int a = behind(z, 1);
            below += a < 0 ? 1 : 0;
            x.due((int) ((a & 0xFFFFFFFFL) / 256 % 6), "told", 0, 0);
            x.due((int) ((behind(z, 2) & 0xFFFFFFFFL) / 256 % 20), "told", 0, POST);
            x.due((int) ((behind(z, 3) & 0xFFFFFFFFL) / 256 % 60), "told", 0, WEAR);
        }
        Checks.holds("p11ADrawIsNeverBelow0: some are", below > 5);
    }

    public static void main(String[] args) throws Exception {
        runAll(GuardBoundaryTest.class, 1, 11);
    }
}
