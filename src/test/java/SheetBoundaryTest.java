import java.util.Arrays;

/** The boundary cases of promises 30 to 38: SHEETS and SLOTS. */
public final class SheetBoundaryTest extends Boundary {
    private static final int SHORTS = 0, FLOATS = 1, MISSING = -1;

    // ---- 30 sheet

    static void p30SheetsAre0To3() {
        furnish();
        for (int sort = MISSING; sort <= FLOATS; sort++) {
            refusedWith(BAD, outside(0, 3), "sheet", 0, 0, sort, 2);
        }
        x.due(2, "sheet", 0, SHORTS, 2);
        x.due(2, "sheet", 3, SHORTS, 2);
    }

    static void p30SortsAreMinus1To1() {
        furnish();
        refusedWith(BAD, outside(-1, 1), "sheet", 1, 0, SHORTS, 2);
        x.due(0, "sheet", 0, -1, 2);
        x.due(2, "sheet", 0, 1, 2);
    }

    static void p30NoMoreThan24Places() {
        furnish();
        for (int sort = SHORTS; sort <= FLOATS; sort++) {
            x.refused(BAD, "sheet", 0, sort, 25);
            x.refused(BAD, "sheet", 0, sort, MAX);
            x.due(24, "sheet", 0, sort, 24);
            x.due(1, "mark", 0, 23, 1);
            x.refused(INDEX, "mark", 0, 24, 1);
        }
    }

    static void p30ANumberOfPlacesBelow0() {
        furnish();
        for (int sort = SHORTS; sort <= FLOATS; sort++) {
            x.refused(SIZE, "sheet", 0, sort, -1);
            x.refused(SIZE, "sheet", 0, sort, MIN);
            x.refused(SIZE, "sheet", 0, sort, NONE);
        }
        x.due(0, "sheet", 0, SHORTS, 0);
    }

    static void p30NoPlaces() {
        for (int sort = SHORTS; sort <= FLOATS; sort++) {
            x.due(0, "sheet", 0, sort, 0);
            x.due(INDEX, "mark", 0, 0, 1);
            x.due(NONE, "reads", 0);
            x.due(0, "pour", 0);
        }
    }

    static void p30MissingWithAnyN() {
        furnish();
        for (int n : new int[] {0, 1, 24, 25, -1, MIN, MAX}) {
            x.due(2, "sheet", 1, SHORTS, 2);
            x.due(0, "sheet", 1, MISSING, n);
            x.due(NOTHING, "mark", 1, 0, 0);
        }
        x.asked(0, "sheet", 2, MISSING, 7);
    }

    static void p30OfSeveralTheFirst() {
        furnish();
        x.refused(BAD, "sheet", 4, SHORTS, -1);
        x.refused(BAD, "sheet", 0, 2, -1);
        x.refused(BAD, "sheet", 0, -2, -1);
    }

    static void p30All0AndOfItsSort() {
        furnish();
        x.due(3, "sheet", 1, FLOATS, 3);
        x.place(0, 1, 0);
        x.place(0, 1, 1);
        x.place(0, 1, 2);
        x.due(3, "sheet", 1, SHORTS, 3);
        x.place(0, 1, 0);
        x.due(KIND, "mark", 1, 0, NONE);
        x.call("sheet", 1, SHORTS, 1);
        x.call("sheet", 1, SHORTS, 3);
        x.place(0, 1, 2);
    }

    static void p30NoOtherSheetOrSlot() {
        furnish();
        x.due(3, "sheet", 1, SHORTS, 3);
        x.place(-8, 0, 1);
        x.due(70000, "item", 2, 0);
        x.due(2, "lay", 2, 0, 0);
    }

    // ---- 31 mark

    static void p31SheetsAre0To3() {
        furnish();
        refusedWith(BAD, outside(0, 3), "mark", 0, 0, 0, 1);
        x.due(1, "mark", 0, 0, 1);
        x.call("sheet", 3, SHORTS, 1);
        x.due(1, "mark", 3, 0, 1);
    }

    static void p31ThatSheetIsMissing() {
        furnish();
        x.refused(NOTHING, "mark", 2, 0, 1);
    }

    static void p31ThereIsNoSuchPlace() {
        furnish();
        for (int sheet = 0; sheet < 2; sheet++) {
            refusedWith(INDEX, outside(0, 2), "mark", 1, sheet, 0, 1);
            x.due(1, "mark", sheet, 0, 5);
            x.due(1, "mark", sheet, 2, 6);
            x.place(5, sheet, 0);
            x.place(6, sheet, 2);
        }
        refusedWith(INDEX, outside(0, -1), "mark", 1, 3, 0, 1);
    }

    static void p31OfShortsItsLowest16Bits() {
        int[][] rows = {{32767, 32767}, {32768, -32768}, {-32768, -32768}, {-32769, 32767}, {65535, -1}, {65536, 0}, {65537, 1},
            {-65536, 0}, {MAX, -1}, {MIN, 0}, {BAD, (short) BAD}, {100000, (short) 100000}};
        x.call("sheet", 0, SHORTS, 1);
        for (int[] row : rows) {
            x.due(1, "mark", 0, 0, row[0]);
            x.place(row[1], 0, 0);
        }
    }

    static void p31NoneInARowOfShorts() {
        furnish();
        x.refused(KIND, "mark", 0, 0, NONE);
        x.due(1, "mark", 0, 0, NONE + 1);
        x.place((short) (NONE + 1), 0, 0);
        x.due(1, "mark", 0, 0, NONE - 1);
        x.place((short) (NONE - 1), 0, 0);
    }

    static void p31OfFloatsUpTo99999() {
        furnish();
        refusedWith(BAD, new int[] {100000, -100000, MIN, MAX, BAD, NONE + 1, NONE - 1}, "mark", 2, 1, 0, 0);
        x.due(1, "mark", 1, 0, 99999);
        x.place(99999, 1, 0);
        x.due(1, "mark", 1, 0, -99999);
        x.place(-99999, 1, 0);
    }

    static void p31NoNumber() {
        furnish();
        x.due(1, "mark", 1, 0, NONE);
        x.place(KIND, 1, 0);
        x.place(KIND, 1, 1);
        x.due(1, "mark", 1, 1, 0);
        x.place(0, 1, 1);
        x.place(30, 1, 2);
    }

    static void p31OfSeveralTheFirst() {
        furnish();
        x.refused(BAD, "mark", 4, 3, NONE);
        x.refused(NOTHING, "mark", 2, -1, NONE);
        x.refused(INDEX, "mark", 0, 3, NONE);
        x.refused(INDEX, "mark", 1, 3, 100000);
    }

    // ---- 32 pour

    static void p32SheetsAre0To3() {
        furnish();
        refusedWith(BAD, outside(0, 3), "pour", 0, 0);
        x.asked(0, "pour", 3);
    }

    static void p32ThatSheetIsMissing() {
        furnish();
        x.refused(NOTHING, "pour", 2);
    }

    static void p32NoGuards() {
        x.sheet(0, SHORTS, 1, 2, 3);
        x.asked(0, "pour", 0);
        x.call("guard", STRAW, 0, 9);
        x.due(9, "told", 0, WEAR);
    }

    static void p32HeldWithin0To99() {
        int[][] rows = {{-1, 0}, {0, 0}, {1, 1}, {98, 98}, {99, 99}, {100, 99}, {-32768, 0}, {32767, 99}};
        x.call("guard", MAN, 0, 50);
        for (int sort = SHORTS; sort <= FLOATS; sort++) {
            for (int[] row : rows) {
                x.call("set", 0, WEAR, 50);
                x.sheet(0, sort, row[0]);
                x.due(1, "pour", 0);
                x.due(row[1], "told", 0, WEAR);
            }
        }
        x.sheet(0, FLOATS, -99999);
        x.due(1, "pour", 0);
        x.due(0, "told", 0, WEAR);
        x.sheet(0, FLOATS, 99999);
        x.due(1, "pour", 0);
        x.due(99, "told", 0, WEAR);
    }

    static void p32HeldButAsItWas() {
        x.call("guard", STRAW, 0, 99);
        x.call("guard", STRAW, 1, 0);
        x.sheet(0, SHORTS, 100, -1);
        x.asked(0, "pour", 0);
    }

    static void p32NoNumberStays() {
        x.call("guard", STRAW, 0, 40);
        x.call("guard", STRAW, 1, 41);
        x.sheet(0, FLOATS, NONE, NONE);
        x.asked(0, "pour", 0);
        x.sheet(0, FLOATS, NONE, 7);
        x.due(1, "pour", 0);
        x.due(40, "told", 0, WEAR);
        x.due(7, "told", 1, WEAR);
    }

    static void p32BeyondTheSheetItStays() {
        x.call("guard", STRAW, 0, 40);
        x.call("guard", STRAW, 1, 41);
        x.sheet(0, SHORTS, 7, 8);
        x.call("sheet", 0, SHORTS, 1);
        x.due(1, "pour", 0);
        x.due(0, "told", 0, WEAR);
        x.due(41, "told", 1, WEAR);
    }

    static void p32MorePlacesThanGuards() {
        x.call("deal", 10);
        int[] all = new int[24];
        Arrays.fill(all, 88);
        x.sheet(0, SHORTS, all);
        x.due(10, "pour", 0);
        for (int g = 0; g < 10; g++) {
            x.due(88, "told", g, WEAR);
        }
        x.asked(0, "pour", 0);
        x.place(88, 0, 23);
    }

    static void p32HowManyAreOtherwise() {
        for (int g = 0; g < 3; g++) {
            x.call("guard", g, g, 10 + g);
            x.call("set", g, DOUBT, 20 + g);
        }
        x.sheet(0, SHORTS, 10, 11, 13);
        x.due(1, "pour", 0);
        x.due(13, "told", 2, WEAR);
        x.due(22, "told", 2, DOUBT);
        x.due(2, "told", 2, POST);
    }

    // ---- 33 reads

    static void p33SheetsAre0To3() {
        furnish();
        refusedWith(BAD, outside(0, 3), "reads", 0, 0);
        x.asked(0, "reads", 0);
        x.asked(NONE, "reads", 3);
    }

    static void p33ThatSheetIsMissing() {
        furnish();
        x.refused(NOTHING, "reads", 2);
    }

    static void p33ThereIsNone() {
        furnish();
        x.sheet(0, SHORTS, 0, 3, 6, 9, 12, 15, 19);
        x.asked(NONE, "reads", 0);
        x.sheet(0, FLOATS, 0, 3, 6, 9, 12, 15, 19, NONE, NONE);
        x.asked(NONE, "reads", 0);
        x.sheet(0, FLOATS, NONE, NONE);
        x.asked(NONE, "reads", 0);
        x.sheet(0, SHORTS, 0, 3);
        x.asked(NONE, "reads", 0);
    }

    static void p33TheFirstPlace() {
        furnish();
        x.sheet(0, SHORTS, 1, 3, 7, 9, 12, 15, 19);
        x.asked(0, "reads", 0);
        x.sheet(0, SHORTS, 0, 3, 7, 9, 12, 15, 20);
        x.asked(2, "reads", 0);
        x.sheet(0, SHORTS, 0, 3, 6, 9, 12, 15, 18);
        x.asked(6, "reads", 0);
        x.sheet(0, FLOATS, NONE, 3, NONE, 8);
        x.asked(3, "reads", 0);
    }

    static void p33PlacesThatAreNoGuard() {
        furnish();
        x.sheet(0, SHORTS, 0, 3, 6, 9, 12, 15, 19, 0);
        x.asked(7, "reads", 0);
        x.sheet(0, FLOATS, 0, 3, 6, 9, 12, 15, 19, NONE, -1);
        x.asked(8, "reads", 0);
    }

    static void p33NoGuards() {
        x.sheet(0, SHORTS, 0);
        x.due(0, "reads", 0);
        x.sheet(0, FLOATS, NONE, 0);
        x.due(1, "reads", 0);
        int[] all = new int[24];
        Arrays.fill(all, NONE);
        all[23] = 0;
        x.sheet(0, FLOATS, all);
        x.due(23, "reads", 0);
    }

    // ---- 34 copy

    private static void twoRows() {
        furnish();
        x.sheet(0, SHORTS, 1, 2, 3, 4, 5);
        x.sheet(2, SHORTS, 11, 12, 13);
    }

    static void p34SheetsAre0To3() {
        twoRows();
        refusedWith(BAD, outside(0, 3), "copy", 0, 0, 0, 2, 0, 1);
        refusedWith(BAD, outside(0, 3), "copy", 2, 0, 0, 2, 0, 1);
        x.call("sheet", 3, SHORTS, 1);
        x.due(1, "copy", 3, 0, 0, 0, 1);
        x.due(1, "copy", 2, 0, 3, 0, 1);
        x.place(11, 3, 0);
    }

    static void p34OneIsMissing() {
        furnish();
        x.refused(NOTHING, "copy", 2, 0, 0, 0, 1);
        x.refused(NOTHING, "copy", 0, 0, 2, 0, 1);
        x.refused(NOTHING, "copy", 2, 0, 2, 0, 0);
        x.refused(NOTHING, "copy", 0, 0, 2, 0, 0);
    }

    static void p34NotOfOneSort() {
        furnish();
        x.refused(KIND, "copy", 0, 0, 1, 0, 1);
        x.refused(KIND, "copy", 1, 0, 0, 0, 1);
        x.refused(KIND, "copy", 0, 0, 3, 0, 0);
    }

    static void p34PlacesToTakeFrom() {
        twoRows();
        refusedWith(INDEX, new int[] {-1, 3, 4, 5, 6, MIN, MAX}, "copy", 1, 0, 0, 2, 0, 3);
        x.due(3, "copy", 0, 2, 2, 0, 3);
        x.place(3, 2, 0);
        x.place(5, 2, 2);
    }

    static void p34PlacesToPut() {
        twoRows();
        refusedWith(INDEX, new int[] {-1, 2, 3, 4, MIN, MAX}, "copy", 3, 0, 0, 2, 0, 2);
        x.due(2, "copy", 0, 0, 2, 1, 2);
        x.place(11, 2, 0);
        x.place(1, 2, 1);
        x.place(2, 2, 2);
    }

    static void p34SoMany() {
        twoRows();
        refusedWith(INDEX, new int[] {4, 5, 6, 24, 25, -1, MIN, MAX}, "copy", 4, 0, 0, 2, 0, 3);
        refusedWith(INDEX, new int[] {4, 5, MAX, MAX - 1}, "copy", 4, 2, 0, 0, 0, 3);
        refusedWith(INDEX, new int[] {3, MAX, MAX - 1, MAX - 2}, "copy", 4, 0, 1, 2, 1, 2);
        x.due(3, "copy", 0, 0, 2, 0, 3);
    }

    static void p34None() {
        twoRows();
        x.asked(0, "copy", 0, 0, 2, 0, 0);
        x.asked(0, "copy", 0, 5, 2, 3, 0);
        x.refused(INDEX, "copy", 0, 6, 2, 3, 0);
        x.refused(INDEX, "copy", 0, 5, 2, 4, 0);
        x.refused(INDEX, "copy", 0, -1, 2, 0, 0);
        x.refused(INDEX, "copy", 0, 0, 2, -1, 0);
        x.sheet(2, SHORTS);
        x.asked(0, "copy", 2, 0, 0, 5, 0);
        x.refused(INDEX, "copy", 2, 0, 0, 0, 1);
    }

    static void p34OfSeveralTheFirst() {
        furnish();
        x.refused(BAD, "copy", 4, 0, 2, 0, -1);
        x.refused(BAD, "copy", 2, 0, 4, 0, -1);
        x.refused(NOTHING, "copy", 0, -1, 2, 0, 1);
        x.refused(KIND, "copy", 0, -1, 1, 0, -1);
    }

    static void p34TheSameOne() {
        x.sheet(0, SHORTS, 1, 2, 3, 4, 5);
        x.due(4, "copy", 0, 0, 0, 1, 4);
        int[] up = {1, 1, 2, 3, 4};
        for (int i = 0; i < 5; i++) {
            x.place(up[i], 0, i);
        }
        x.sheet(0, SHORTS, 1, 2, 3, 4, 5);
        x.due(4, "copy", 0, 1, 0, 0, 4);
        int[] down = {2, 3, 4, 5, 5};
        for (int i = 0; i < 5; i++) {
            x.place(down[i], 0, i);
        }
        x.asked(5, "copy", 0, 0, 0, 0, 5);
        x.refused(INDEX, "copy", 0, 0, 0, 1, 5);
    }

    static void p34All24AndNoNumberToo() {
        int[] all = new int[24];
        for (int i = 0; i < 24; i++) {
            all[i] = i % 2 == 0 ? NONE : 1000 * i;
        }
        x.sheet(0, FLOATS, all);
        x.call("sheet", 1, FLOATS, 24);
        x.due(24, "copy", 0, 0, 1, 0, 24);
        for (int i = 0; i < 24; i++) {
            x.place(i % 2 == 0 ? KIND : 1000 * i, 1, i);
        }
        x.refused(INDEX, "copy", 0, 0, 1, 0, 25);
    }

    // ---- 35 lay

    static void p35SlotsAre0To4() {
        furnish();
        for (int thing = 0; thing < 4; thing++) {
            refusedWith(BAD, outside(0, 4), "lay", 0, 0, thing, 0);
        }
        x.due(0, "lay", 0, 3, 7);
        x.due(2, "lay", 4, 3, 8);
        x.due(7, "rest", 0, 100);
        x.due(8, "rest", 4, 100);
    }

    static void p35ThingsAre0To3() {
        furnish();
        refusedWith(BAD, outside(0, 3), "lay", 1, 1, 0, 0);
        x.due(1, "lay", 1, 3, 0);
        x.due(3, "lay", 1, 0, 0);
        x.due(0, "lay", 1, 0, 0);
    }

    static void p35GuardsAreThoseThatThereAre() {
        furnish();
        refusedWith(BAD, outside(0, 6), "lay", 2, 3, 1, 0);
        x.due(3, "lay", 3, 1, 0);
        x.due(1, "lay", 3, 1, 6);
        x = new Run("p35 there are no GUARDS");
        x.refused(BAD, "lay", 3, 1, 0);
    }

    static void p35SheetsAre0To3() {
        furnish();
        refusedWith(BAD, outside(0, 3), "lay", 2, 3, 2, 0);
        x.due(3, "lay", 3, 2, 0);
        x.due(2, "lay", 3, 2, 3);
    }

    static void p35ThatSheetIsMissing() {
        furnish();
        x.refused(NOTHING, "lay", 3, 2, 2);
        x.refused(NOTHING, "lay", 0, 2, 2);
        x.refused(BAD, "lay", 5, 2, 2);
    }

    static void p35AnyNumber() {
        for (int v : new int[] {MIN, MAX, 0, NONE, BAD}) {
            x.call("lay", 0, 3, v);
            x.due(v == MIN ? 0 : v, "rest", 0, MIN);
            x.due(v % 1000003, "rest", 0, 1000003);
        }
    }

    static void p35NothingWithAnyK() {
        furnish();
        for (int k : new int[] {0, -1, 99, MIN, MAX}) {
            x.due(k == 0 ? 3 : 0, "lay", 3, 0, k);
            x.due(NOTHING, "rest", 3, 1);
        }
    }

    static void p35AGuardAsItIsThenForGood() {
        furnish();
        x.call("set", 0, WEAR, 20);
        x.call("lay", 0, 1, 0);
        x.call("set", 0, WEAR, 99);
        x.call("turns", 0, LANTERN);
        x.call("nights", 5);
        x.due(20, "ask", 0, STRAW);
        x.due(KIND, "ask", 0, LANTERN);
        x.call("back");
        x.due(20, "ask", 0, STRAW);
    }

    static void p35ASheetOfItsOwnAsItWasThen() {
        furnish();
        x.call("mark", 1, 0, 1);
        x.due(70000, "item", 2, 0);
        x.call("sheet", 1, MISSING, 0);
        x.due(70000, "item", 2, 0);
        x.due(KIND, "item", 2, 1);
        x.due(INDEX, "item", 2, 3);
        x.sheet(1, SHORTS, 1, 2, 3, 4);
        x.due(INDEX, "item", 2, 3);
        x.due(2, "lay", 2, 2, 1);
        x.due(4, "item", 2, 3);
    }

    static void p35SlotsApart() {
        x.sheet(0, SHORTS, 5);
        for (int slot = 0; slot < 5; slot++) {
            x.call("lay", slot, 2, 0);
            x.call("mark", 0, 0, 6 + slot);
        }
        for (int slot = 0; slot < 5; slot++) {
            x.due(5 + slot, "item", slot, 0);
        }
    }

    // ---- 36 ask

    static void p36SlotsAre0To4() {
        furnish();
        refusedWith(BAD, outside(0, 4), "ask", 0, 1, 0);
        x.call("lay", 0, 1, 6);
        x.call("lay", 4, 1, 6);
        x.asked(7, "ask", 0, 0);
        x.asked(7, "ask", 4, 0);
    }

    static void p36KindsAre0To5() {
        furnish();
        refusedWith(BAD, outside(0, 5), "ask", 1, 1, 0);
        x.call("lay", 0, 1, 5);
        x.asked(8, "ask", 0, 0);
        x.asked(8, "ask", 0, 5);
    }

    static void p36ItHoldsNothing() {
        furnish();
        for (int kind = 0; kind < 6; kind++) {
            x.refused(NOTHING, "ask", 0, kind);
        }
    }

    static void p36ItIsNoGuard() {
        furnish();
        for (int slot = 2; slot < 5; slot++) {
            for (int kind = 0; kind < 6; kind++) {
                x.refused(KIND, "ask", slot, kind);
            }
        }
    }

    static void p36NotOfThatKind() {
        String[] is = {"x.....", "xx....", "x.x...", "xx.x..", "x.x.x.", "x....x"};
        int[] worth = {0, 5, 99, 10, 92, 8};
        for (int kind = 0; kind < 6; kind++) {
            x.call("guard", kind, kind, 0);
            x.call("lay", 0, 1, kind);
            for (int other = 0; other < 6; other++) {
                x.asked(is[kind].charAt(other) == 'x' ? worth[kind] : KIND, "ask", 0, other);
            }
        }
    }

    static void p36WorthAtItsEnds() {
        x.call("guard", GENERAL, 0, 99);
        x.call("lay", 0, 1, 0);
        x.due(208, "ask", 0, STRAW);
        x.call("turns", 0, SENTRY);
        x.call("lay", 0, 1, 0);
        x.due(-7, "ask", 0, MAN);
    }

    static void p36OfSeveralTheFirst() {
        furnish();
        x.refused(BAD, "ask", 0, 6);
        x.refused(BAD, "ask", 3, -1);
        x.refused(BAD, "ask", 5, 0);
    }

    // ---- 37 item

    static void p37SlotsAre0To4() {
        furnish();
        refusedWith(BAD, outside(0, 4), "item", 0, 4, 0);
        x.asked(7, "item", 4, 0);
        x.call("lay", 0, 2, 0);
        x.asked(7, "item", 0, 0);
    }

    static void p37ItHoldsNothing() {
        furnish();
        x.refused(NOTHING, "item", 0, 0);
        x.refused(NOTHING, "item", 0, -1);
    }

    static void p37ItIsNoSheet() {
        furnish();
        x.refused(KIND, "item", 1, 0);
        x.refused(KIND, "item", 3, 0);
        x.refused(KIND, "item", 3, 99);
    }

    static void p37ThereIsNoSuchPlace() {
        furnish();
        refusedWith(INDEX, outside(0, 2), "item", 1, 4, 0);
        x.asked(7, "item", 4, 0);
        x.asked(9, "item", 4, 2);
        x.call("lay", 0, 2, 3);
        x.refused(INDEX, "item", 0, 0);
    }

    static void p37NoNumber() {
        furnish();
        x.refused(KIND, "item", 2, 1);
        x.asked(70000, "item", 2, 0);
        x.asked(30, "item", 2, 2);
        x.refused(INDEX, "item", 2, 3);
    }

    static void p37All24() {
        int[] all = new int[24];
        for (int i = 0; i < 24; i++) {
            all[i] = 99999 - i;
        }
        x.sheet(0, FLOATS, all);
        x.call("lay", 0, 2, 0);
        for (int i = 0; i < 24; i++) {
            x.due(99999 - i, "item", 0, i);
        }
        x.due(INDEX, "item", 0, 24);
    }

    // ---- 38 rest

    static void p38SlotsAre0To4() {
        furnish();
        refusedWith(BAD, outside(0, 4), "rest", 0, 3, 10);
        refusedWith(BAD, outside(0, 4), "rest", 0, 3, 0);
        x.call("lay", 0, 3, 17);
        x.call("lay", 4, 3, 18);
        x.asked(7, "rest", 0, 10);
        x.asked(8, "rest", 4, 10);
    }

    static void p38ItHoldsNothing() {
        furnish();
        x.refused(NOTHING, "rest", 0, 1);
        x.refused(NOTHING, "rest", 0, 0);
    }

    static void p38ItIsNoNumber() {
        furnish();
        for (int slot : new int[] {1, 2, 4}) {
            x.refused(KIND, "rest", slot, 1);
            x.refused(KIND, "rest", slot, 0);
        }
    }

    static void p38NIs0() {
        furnish();
        x.refused(NO, "rest", 3, 0);
        x.asked(0, "rest", 3, 1);
        x.asked(0, "rest", 3, -1);
        x.call("lay", 3, 3, 0);
        x.refused(NO, "rest", 3, 0);
        x.asked(0, "rest", 3, 7);
    }

    static void p38SignsAndEnds() {
        int[][] rows = {{17, 5, 2}, {-17, 5, -2}, {17, -5, 2}, {-17, -5, -2}, {MIN, -1, 0}, {MIN, 1, 0}, {MIN, MIN, 0},
            {MIN, MAX, -1}, {MAX, MIN, MAX}, {MAX, MAX, 0}, {MAX, 2, 1}, {MIN, 10, -8}, {4, 5, 4}, {5, 5, 0}, {6, 5, 1}};
        for (int[] row : rows) {
            x.call("lay", 0, 3, row[0]);
            x.due(row[2], "rest", 0, row[1]);
        }
    }

    public static void main(String[] args) throws Exception {
        runAll(SheetBoundaryTest.class, 30, 38);
    }
}
