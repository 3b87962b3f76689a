/** The edges of promises 45 to 49: VOICES, THE TRACE, SHEETS. */
final class SheetEdges extends Edges {
    private SheetEdges() {
    }

    // ---- promise 45: voice

    static void promise45_theBondMustStand() {
        range(0, 7, (x, v) -> x.voice(v, 0, 5));
        refused(BEYOND, () -> land(1, 1), x -> x.voice(0, 0, 0));
    }

    static void promise45_actIs0To3() {
        range(0, 3, (x, v) -> x.voice(0, v, 5));
    }

    static void promise45_whatIsBeyondLeavesTheTrace() {
        FreeLances x = rich();
        due(x.voice(8, 0, 0), BEYOND);
        due(x.voice(0, 4, 0), BEYOND);
        due(x.count(8), 10);
        due(x.trace(0), 13);
        due(x.trace(9), 10);
    }

    static void promise45_anyNumberMayComeOut() {
        FreeLances x = rich();
        // BOND 0 is a CONTRACT with n 0.
        due(x.voice(0, 0, BEYOND), BEYOND);
        due(x.voice(0, 0, LEAST), LEAST);
        due(x.voice(0, 0, GREATEST), GREATEST);
        due(x.found(1), 0);
    }

    static void promise45_eachKindHasItsBodies() {
        // For each BOND 0 .. 6 of rich() what bind, pay, end, tell of 10 come to; w is 400, 400, 50, 0, 10, 5, 30.
        int[][] due = {
            {10, 820, 18, 820 ^ 18},
            {33, 866, 17 + 33, 866 ^ 50},
            {12, 10 - 62, 18, -52 ^ 18},
            {13, 13, 17, (13 ^ 17) - 1},
            {14, 24, 16, 16 + (25 ^ 18)},
            {15, 40, 13, 40 ^ 13},
            {16, 46, 46 - 14, 46 ^ 32},
        };
        FreeLances x = rich();
        for (int bond = 0; bond < due.length; bond++) {
            for (int act = 0; act < 4; act++) {
                due(x.voice(bond, act, 10), due[bond][act]);
            }
        }
    }

    // ---- promise 46: trace

    static void promise46_noneBeyondItsEnds() {
        refused(NONE, x -> x.trace(-1));
        refused(NONE, x -> x.trace(10));
        refused(NONE, x -> x.trace(LEAST));
        refused(NONE, x -> x.trace(GREATEST));
        due(rich().trace(0), 13);
        due(rich().trace(9), 10);
    }

    static void promise46_noneAheadOfTheFirstVoice() {
        refused(NONE, FreeLances::new, x -> x.trace(0));
    }

    static void promise46_theLongestTrace() {
        // tell of a RENEWAL: pay, then end.
        int[] due = {13, 20, 11, 31, 10, 30, 21, 12, 31, 10};
        FreeLances x = rich();
        for (int i = 0; i < due.length; i++) {
            due(x.trace(i), due[i]);
        }
        due(x.count(8), due.length);
    }

    // ---- promise 47: sheet

    static void promise47_theSheetIs0To3() {
        range(0, 3, (x, v) -> x.sheet(v, 32, 5));
        refused(BEYOND, x -> x.sheet(4, 0, 5));
    }

    static void promise47_bitsAre0Or8Or16Or32() {
        for (int bits = -1; bits <= 65; bits++) {
            boolean right = bits == 0 || bits == 8 || bits == 16 || bits == 32;
            due(new FreeLances().sheet(0, bits, 1), right ? 1 : BEYOND);
        }
        for (int bits : new int[] {-8, 24, 64, LEAST, GREATEST}) {
            refused(BEYOND, x -> x.sheet(0, bits, 1));
        }
    }

    static void promise47_nIs0To24() {
        due(new FreeLances().sheet(0, 8, 0), 1);
        due(new FreeLances().sheet(0, 16, 24), 1);
        refused(BEYOND, x -> x.sheet(0, 8, 25));
        refused(BEYOND, x -> x.sheet(0, 32, GREATEST));
    }

    static void promise47_stateIfNIsBelow0() {
        refused(STATE, x -> x.sheet(0, 8, -1));
        refused(STATE, x -> x.sheet(3, 32, LEAST));
    }

    static void promise47_beyondOfTheRestAheadOfState() {
        refused(BEYOND, x -> x.sheet(4, 8, -1));
        refused(BEYOND, x -> x.sheet(-1, 8, -1));
        refused(BEYOND, x -> x.sheet(0, 7, -1));
    }

    static void promise47_withoutBitsItIsMissingAndNDoesNotMatter() {
        for (int n : new int[] {0, 5, -1, 25, LEAST, GREATEST}) {
            FreeLances x = rich();
            due(x.sheet(0, 0, n), 1);
            due(x.put(0, 0, 0), NONE);
            due(x.put(1, 0, 0), 1);
        }
    }

    static void promise47_allNumbersAre0Again() {
        FreeLances x = new FreeLances();
        x.sheet(0, 8, 24);
        for (int i = 0; i < 24; i++) {
            x.put(0, i, 9);
        }
        x.sheet(0, 8, 1);
        due(x.parts(10, 0, 0), KIND);
        x.sheet(0, 16, 24);
        x.put(0, 0, 1);
        due(x.parts(99999, 0, 0), 99999);
        x.sheet(0, 0, 0);
        x.sheet(0, 32, 24);
        due(x.parts(10, 0, 0), KIND);
    }

    // ---- promise 48: put

    static void promise48_theSheetIs0To3() {
        range(0, 3, () -> {
            FreeLances x = rich();
            x.sheet(3, 8, 1);
            return x;
        }, (x, v) -> x.put(v, 0, 0));
    }

    static void promise48_noneIfItIsMissing() {
        refused(NONE, x -> x.put(3, 0, 1));
    }

    static void promise48_theNumberMustStand() {
        range(0, 2, (x, v) -> x.put(0, v, 1));
        range(0, 5, (x, v) -> x.put(1, v, 1));
        refused(BEYOND, () -> {
            FreeLances x = rich();
            x.sheet(3, 8, 0);
            return x;
        }, x -> x.put(3, 0, 1));
    }

    static void promise48_findingsInTheirOrder() {
        refused(BEYOND, x -> x.put(4, 0, 0));
        refused(NONE, x -> x.put(3, -1, 0));
        refused(NONE, x -> x.put(3, 99, 0));
    }

    /** Each row is a number that is put, and what it is then, or KIND if that isn't 0 .. 999. */
    private static void dueKept(int bits, int[][] rows) {
        for (int[] row : rows) {
            FreeLances x = new FreeLances();
            fill(x, 0, bits, row[0], 1);
            // Of 99 times as many as both are together each has 99 times what it is.
            int all = row[1] == KIND ? 1 : 99 * (row[1] + 1);
            due(x.parts(all, 0, 0), row[1] == KIND ? KIND : 99 * row[1]);
            due(x.parts(all, 0, 1), row[1] == KIND ? KIND : 99);
        }
    }

    static void promise48_theLowest8BitsAreKept() {
        dueKept(8, new int[][] {{0, 0}, {127, 127}, {128, KIND}, {255, KIND}, {256, 0}, {257, 1}, {383, 127},
            {-1, KIND}, {-128, KIND}, {-129, 127}, {-256, 0}, {LEAST, 0}, {GREATEST, KIND}, {LEAST + 5, 5}});
    }

    static void promise48_theLowest16BitsAreKept() {
        dueKept(16, new int[][] {{0, 0}, {999, 999}, {1000, KIND}, {32768, KIND}, {65535, KIND}, {65536, 0},
            {65537, 1}, {-1, KIND}, {-65536, 0}, {-65535, 1}, {LEAST, 0}, {LEAST + 999, 999}, {GREATEST, KIND}});
    }

    static void promise48_all32BitsAreKept() {
        dueKept(32, new int[][] {{0, 0}, {999, 999}, {65536, KIND}, {65537, KIND}, {LEAST, KIND}, {GREATEST, KIND},
            {-1, KIND}});
    }

    static void promise48_minus1IsMinus1OfAllBits() {
        for (int bits : new int[] {8, 16, 32}) {
            FreeLances x = land(1, 1);
            x.lance(0, 5, 100);
            fill(x, 0, bits, 5);
            due(x.muster(0, 0), 1);
            x.put(0, 0, -1);
            due(x.muster(0, 0), 1);
        }
        FreeLances x = land(1, 1);
        fill(x, 0, 8, 255);
        due(x.muster(0, 0), 0);
        fill(x, 0, 16, 65535);
        due(x.muster(0, 0), 0);
        fill(x, 0, 16, 255);
        due(x.muster(0, 0), KIND);
        fill(x, 0, 32, 65535);
        due(x.muster(0, 0), KIND);
    }

    // ---- promise 49: move

    /** SHEET 0 has 1 2 3 4 5, SHEET 1 0 0 0 (both of 8 bits), SHEET 2 one number of 16 bits; SHEET 3 is missing. */
    private static FreeLances moving() {
        FreeLances x = new FreeLances();
        fill(x, 0, 8, 1, 2, 3, 4, 5);
        x.sheet(1, 8, 3);
        fill(x, 2, 16, 9);
        return x;
    }

    private static void dueRow(FreeLances x, int sheet, int... numbers) {
        int all = 0;
        for (int number : numbers) {
            all += number;
        }
        for (int i = 0; i < numbers.length; i++) {
            due(x.parts(all, sheet, i), numbers[i]);
        }
    }

    static void promise49_bothSheetsAre0To3() {
        due(moving().move(0, 0, 1, 0, 1), 1);
        due(moving().move(1, 0, 0, 0, 1), 1);
        due(moving().move(2, 0, 2, 0, 1), 1);
        for (int sheet : new int[] {-1, 4, LEAST, GREATEST}) {
            refused(BEYOND, SheetEdges::moving, x -> x.move(0, 0, sheet, 0, 1));
            refused(BEYOND, SheetEdges::moving, x -> x.move(sheet, 0, 0, 0, 1));
        }
    }

    static void promise49_noneIfOneIsMissing() {
        refused(NONE, SheetEdges::moving, x -> x.move(3, 0, 0, 0, 1));
        refused(NONE, SheetEdges::moving, x -> x.move(0, 0, 3, 0, 1));
        refused(NONE, SheetEdges::moving, x -> x.move(3, 0, 3, 0, 0));
    }

    static void promise49_kindIfTheyAreOfUnlikeBits() {
        refused(KIND, SheetEdges::moving, x -> x.move(0, 0, 2, 0, 1));
        refused(KIND, SheetEdges::moving, x -> x.move(2, 0, 0, 0, 1));
        refused(KIND, SheetEdges::moving, x -> x.move(2, 0, 0, 0, 0));
    }

    static void promise49_nothingIsBelow0() {
        refused(BEYOND, SheetEdges::moving, x -> x.move(0, 0, 1, 0, -1));
        refused(BEYOND, SheetEdges::moving, x -> x.move(0, -1, 1, 0, 1));
        refused(BEYOND, SheetEdges::moving, x -> x.move(0, 0, 1, -1, 1));
        refused(BEYOND, SheetEdges::moving, x -> x.move(0, -1, 1, 0, 0));
        refused(BEYOND, SheetEdges::moving, x -> x.move(0, LEAST, 1, LEAST, LEAST));
    }

    static void promise49_theyMustStandInTheOne() {
        due(moving().move(0, 4, 1, 0, 1), 1);
        due(moving().move(0, 2, 1, 0, 3), 3);
        refused(BEYOND, SheetEdges::moving, x -> x.move(0, 5, 1, 0, 1));
        refused(BEYOND, SheetEdges::moving, x -> x.move(0, 3, 1, 0, 3));
        refused(BEYOND, SheetEdges::moving, x -> x.move(0, 4, 1, 0, GREATEST));
        refused(BEYOND, SheetEdges::moving, x -> x.move(0, GREATEST, 1, 0, 1));
    }

    static void promise49_theyMustStandInTheOther() {
        due(moving().move(0, 0, 1, 2, 1), 1);
        due(moving().move(0, 0, 1, 0, 3), 3);
        refused(BEYOND, SheetEdges::moving, x -> x.move(0, 0, 1, 3, 1));
        refused(BEYOND, SheetEdges::moving, x -> x.move(0, 0, 1, 0, 4));
        refused(BEYOND, SheetEdges::moving, x -> x.move(0, 0, 1, 1, 3));
        refused(BEYOND, SheetEdges::moving, x -> x.move(0, 0, 1, GREATEST, 1));
    }

    static void promise49_sumsThatWrapAreBeyondToo() {
        refused(BEYOND, SheetEdges::moving, x -> x.move(0, GREATEST, 1, 0, GREATEST));
        refused(BEYOND, SheetEdges::moving, x -> x.move(0, 0, 1, GREATEST, GREATEST));
        refused(BEYOND, SheetEdges::moving, x -> x.move(0, 1, 0, 1, GREATEST));
        refused(BEYOND, SheetEdges::moving, x -> x.move(0, GREATEST, 1, GREATEST, 2));
    }

    static void promise49_noNumbersMayMove() {
        due(moving().move(0, 0, 1, 0, 0), 0);
        due(moving().move(0, 5, 1, 3, 0), 0);
        refused(BEYOND, SheetEdges::moving, x -> x.move(0, 6, 1, 0, 0));
        refused(BEYOND, SheetEdges::moving, x -> x.move(0, 0, 1, 4, 0));
        FreeLances x = new FreeLances();
        x.sheet(0, 8, 0);
        due(x.move(0, 0, 0, 0, 0), 0);
        due(x.move(0, 0, 0, 0, 1), BEYOND);
    }

    static void promise49_findingsInTheirOrder() {
        refused(BEYOND, SheetEdges::moving, x -> x.move(4, 0, 3, 0, 1));
        refused(NONE, SheetEdges::moving, x -> x.move(3, 0, 2, 0, -1));
        refused(NONE, SheetEdges::moving, x -> x.move(2, 0, 3, 0, -1));
        refused(KIND, SheetEdges::moving, x -> x.move(2, 0, 0, 0, -1));
        refused(KIND, SheetEdges::moving, x -> x.move(0, 9, 2, 9, 9));
    }

    static void promise49_asTheyAllWereAlsoWithinOne() {
        FreeLances x = moving();
        due(x.move(0, 0, 0, 1, 4), 4);
        dueRow(x, 0, 1, 1, 2, 3, 4);
        x = moving();
        due(x.move(0, 1, 0, 0, 4), 4);
        dueRow(x, 0, 2, 3, 4, 5, 5);
        x = moving();
        due(x.move(0, 0, 0, 0, 5), 5);
        dueRow(x, 0, 1, 2, 3, 4, 5);
    }

    static void promise49_theRestStays() {
        FreeLances x = moving();
        fill(x, 1, 8, 7, 8, 9);
        due(x.move(0, 3, 1, 1, 2), 2);
        dueRow(x, 1, 7, 4, 5);
        dueRow(x, 0, 1, 2, 3, 4, 5);
    }

    static void promise49_all24() {
        FreeLances x = new FreeLances();
        x.sheet(0, 16, 24);
        x.sheet(1, 16, 24);
        for (int i = 0; i < 24; i++) {
            x.put(0, i, i + 1);
        }
        due(x.move(0, 0, 1, 0, 25), BEYOND);
        due(x.move(0, 0, 1, 0, 24), 24);
        for (int i = 0; i < 24; i++) {
            due(x.parts(300, 1, i), i + 1);
        }
    }
}
