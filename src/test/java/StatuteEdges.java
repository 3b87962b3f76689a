/** The edges of promises 16 to 19: THE TAPE and STATUTES. */
final class StatuteEdges extends Edges {
    private StatuteEdges() {
    }

    /** So many bytes of "1+1+.." stand on THE TAPE. */
    private static FreeLances taped(int bytes) {
        FreeLances x = land(1, 1);
        feed(x, "1+".repeat(bytes).substring(0, bytes));
        return x;
    }

    /** Twelve STATUTES, and "h+" on THE TAPE. */
    private static FreeLances lawful() {
        FreeLances x = land(1, 1);
        for (int i = 0; i < 12; i++) {
            law(x, 0, i, "h+1");
        }
        feed(x, "h+");
        return x;
    }

    // ---- promise 16: feed

    static void promise16_nIs1To8() {
        range(1, 8, (x, v) -> x.feed(0x3131313131313131L, v));
    }

    static void promise16_theLowestByteComesFirst() {
        FreeLances x = new FreeLances();
        due(x.feed(0x3837363534332d39L, 8), 8);
        due(x.statute(0, 0), -10 - 6);
        due(x.feed(0x342d39L, 3), 3);
        due(x.statute(0, 0), 0);
        due(x.says(0, 0, 0, 0), 5);
    }

    static void promise16_theRestOfTheWordDoesNotMatter() {
        FreeLances x = new FreeLances();
        due(x.feed(-1L << 8 | '7', 1), 1);
        due(x.statute(0, 0), 0);
        due(x.says(0, 0, 0, 0), 7);
        due(x.feed(Long.MIN_VALUE | '7', 7), 7);
        due(x.statute(0, 0), -11);
    }

    static void promise16_allEightBytesCome() {
        FreeLances x = new FreeLances();
        due(x.feed(0x392b312b312b312bL, 8), 8);
        due(x.statute(0, 0), -10);
        due(x.feed(0x2b312b312b312b39L, 8), 8);
        due(x.feed('8', 1), 9);
        due(x.statute(0, 0), 0);
        due(x.says(0, 0, 0, 0), 9 + 3 + 8);
    }

    static void promise16_fullAbove50() {
        due(taped(42).feed(0, 8), 50);
        due(taped(49).feed(0, 1), 50);
        refused(FULL, () -> taped(43), x -> x.feed(0, 8));
        refused(FULL, () -> taped(50), x -> x.feed(0, 1));
        refused(FULL, () -> taped(49), x -> x.feed(0, 2));
    }

    static void promise16_beyondAheadOfFull() {
        refused(BEYOND, () -> taped(50), x -> x.feed(0, 0));
        refused(BEYOND, () -> taped(50), x -> x.feed(0, 9));
    }

    // ---- promise 17: statute

    private static FreeLances taped7() {
        FreeLances x = land(1, 1);
        feed(x, "7");
        return x;
    }

    static void promise17_useIs0To3() {
        range(0, 3, StatuteEdges::taped7, (x, v) -> x.statute(v, 0));
    }

    static void promise17_fromIs0To3000() {
        range(0, 3000, StatuteEdges::taped7, (x, v) -> x.statute(0, v));
    }

    static void promise17_theTapeIsEmptyThen() {
        FreeLances x = taped7();
        due(x.statute(0, 0), 0);
        due(x.count(7), 0);
        due(x.statute(0, 0), -10);
        due(x.count(4), 1);
    }

    static void promise17_theTapeIsEmptyBehindAFaultToo() {
        FreeLances x = taped(2);
        due(x.statute(0, 0), -12);
        due(x.count(7), 0);
        due(x.count(4), 0);
        due(law(x, 0, 0, "5"), 0);
        due(x.says(0, 0, 0, 0), 5);
    }

    static void promise17_aFaultIsNoFinding() {
        FreeLances x = taped(50);
        due(x.statute(0, 0), -60);
        for (int k = 1; k <= 5; k++) {
            due(x.found(k), 0);
        }
    }

    static void promise17_theTapeStaysIfBeyond() {
        FreeLances x = taped7();
        due(x.statute(4, 0), BEYOND);
        due(x.statute(0, 3001), BEYOND);
        due(x.count(7), 1);
        due(x.statute(0, 3000), 0);
        due(x.says(0, 0, 0, 0), 7);
    }

    static void promise17_fullWith12AndTheTapeStays() {
        FreeLances x = lawful();
        due(x.statute(0, 0), FULL);
        due(x.count(7), 2);
        due(x.count(4), 12);
        refused(FULL, StatuteEdges::lawful, y -> y.statute(3, 3000));
    }

    static void promise17_beyondAheadOfFullAheadOfTheFault() {
        refused(BEYOND, StatuteEdges::lawful, x -> x.statute(4, 0));
        refused(BEYOND, StatuteEdges::lawful, x -> x.statute(0, -1));
        refused(FULL, StatuteEdges::lawful, x -> x.statute(0, 0));
        refused(BEYOND, x -> x.statute(-1, 0));
    }

    static void promise17_aLaterTapeDoesNotChangeAStatute() {
        FreeLances x = new FreeLances();
        law(x, 0, 0, "1234");
        law(x, 0, 0, "8*9+h");
        feed(x, "555555");
        due(x.says(0, 0, 0, 0), 1234);
        due(x.says(1, 1, 0, 0), 73);
    }

    // ---- promise 18: force

    private static FreeLances uses() {
        FreeLances x = land(1, 1);
        for (int use = 0; use < 4; use++) {
            law(x, use, 0, "1");
        }
        return x;
    }

    static void promise18_useIs0To3() {
        range(0, 3, StatuteEdges::uses, (x, v) -> x.force(v, 0));
        for (int use = 0; use < 4; use++) {
            due(uses().force(use, 0), use);
        }
    }

    static void promise18_dayIs0To3000() {
        range(0, 3000, StatuteEdges::uses, (x, v) -> x.force(0, v));
    }

    static void promise18_noneAheadOfItsDay() {
        FreeLances x = taped7();
        x.statute(2, 3000);
        due(x.force(2, 3000), 0);
        due(x.force(2, 2999), NONE);
        refused(NONE, y -> y.force(3, 39));
        due(rich().force(3, 40), 1);
        refused(NONE, y -> y.force(1, 3000));
        refused(NONE, y -> y.force(2, 0));
    }

    static void promise18_beyondAheadOfNone() {
        refused(BEYOND, x -> x.force(1, 3001));
        refused(BEYOND, FreeLances::new, x -> x.force(4, 0));
    }

    // ---- promise 19: says

    static void promise19_theStatuteMustStand() {
        range(0, 1, (x, v) -> x.says(v, 0, 0, 0));
        refused(BEYOND, FreeLances::new, x -> x.says(0, 0, 0, 0));
    }

    private static int said(int use, String text, int a, int b, int c) {
        FreeLances x = new FreeLances();
        law(x, use, 0, text);
        return x.says(0, a, b, c);
    }

    static void promise19_namesAreToldInTheirOrder() {
        due(said(0, "h", 1, 2, 3), 1);
        due(said(0, "m", 1, 2, 3), 2);
        due(said(0, "s", 1, 2, 3), 3);
        due(said(1, "n", 1, 2, 3), 1);
        due(said(1, "p", 1, 2, 3), 2);
        due(said(2, "l", 1, 2, 3), 1);
        due(said(2, "o", 1, 2, 3), 2);
        due(said(3, "c", 1, 2, 3), 1);
    }

    static void promise19_namesMayBeAnyInt() {
        due(said(0, "h", LEAST, 0, 0), LEAST);
        due(said(0, "h+m+s", GREATEST, GREATEST, 2), 0);
        due(said(3, "c", GREATEST, 0, 0), GREATEST);
    }

    static void promise19_asLowAsAFindingIsNotFound() {
        FreeLances x = new FreeLances();
        law(x, 0, 0, "h");
        due(x.says(0, BEYOND, 0, 0), BEYOND);
        due(x.found(1), 0);
    }

    static void promise19_aStatuteSaysAlsoWhenNotInForce() {
        FreeLances x = new FreeLances();
        law(x, 0, 3000, "5");
        law(x, 0, 0, "6");
        due(x.says(0, 0, 0, 0), 5);
        due(x.says(1, 0, 0, 0), 6);
    }
}
