/** The boundary cases of promises 11 to 13: solid, chains and longest. */
public final class WholeBoundaryTest {
    public static void main(String[] args) {
        Check.test("Promise 11, none: nothing read, reads too short, all below the floor",
            WholeBoundaryTest::promise11None);
        Check.test("Promise 11, a piece and its mirror counted as one, whichever was read",
            WholeBoundaryTest::promise11MirrorsAreOne);
        Check.test("Promise 11, the most: 32 with 3 letters, which is every piece, 92 with 5",
            WholeBoundaryTest::promise11Most);
        Check.test("Promise 12, none: nothing read, reads too short, all below the floor",
            WholeBoundaryTest::promise12None);
        Check.test("Promise 12, a chain and that of the mirrors counted as one, a ring too",
            WholeBoundaryTest::promise12MirrorsAreOne);
        Check.test("Promise 12, the most and the fewest: every piece alone, all in one chain",
            WholeBoundaryTest::promise12MostAndFewest);
        Check.test("Promise 12, a chain of one piece and a ring count like any other",
            WholeBoundaryTest::promise12OnePieceAndRings);
        Check.test("Promise 13, 0 if there is none: nothing read, reads too short, all below the floor",
            WholeBoundaryTest::promise13None);
        Check.test("Promise 13, 1 if every chain is of one piece", WholeBoundaryTest::promise13OnePiece);
        Check.test("Promise 13, the greatest: 7 and 92 in a row, 6 and 92 in a ring",
            WholeBoundaryTest::promise13Greatest);
        Check.test("Promise 13, two chains of the same number, a ring beside a longer and a shorter row",
            WholeBoundaryTest::promise13Compared);
        Check.finish();
    }

    private static UnitigBuilder[] withNothingSolid() {
        return new UnitigBuilder[] {
            new UnitigBuilder(3, 1),
            new UnitigBuilder(5, 1),
            Check.withReads(3, 1, "00", "11", "0", "1"),
            Check.withReads(5, 1, "0000", "1111", "00", "11"),
            Check.withReads(3, 9, "0000000000", "0101"),
            Check.withReads(5, 9, "000000000000", "01010101"),
        };
    }

    private static void promise11None() {
        for (UnitigBuilder builder : withNothingSolid()) {
            Check.due("solid", builder.solid(), 0);
        }
    }

    private static void promise12None() {
        for (UnitigBuilder builder : withNothingSolid()) {
            Check.due("chains", builder.chains(), 0);
        }
    }

    private static void promise13None() {
        for (UnitigBuilder builder : withNothingSolid()) {
            Check.due("longest", builder.longest(), 0);
        }
    }

    private static void promise11MirrorsAreOne() {
        for (String piece : new String[] {"001", "012", "00112", "01233"}) {
            int k = piece.length();
            Check.due("the piece", Check.withReads(k, 1, piece).solid(), 1);
            Check.due("the mirror", Check.withReads(k, 1, Rows.mirror(piece)).solid(), 1);
            UnitigBuilder both = Check.withReads(k, 2, piece, Rows.mirror(piece));
            Check.due("both, each once at floor 2", both.solid(), 1);
            both.floor(3);
            Check.due("both, each once at floor 3", both.solid(), 0);
        }
    }

    private static void promise11Most() {
        UnitigBuilder all = Check.withReads(3, 1, Rows.everyPiece(3));
        Check.due("every piece of 3 letters", all.solid(), 32);
        Check.due("92 pieces of 5 letters", Check.withReads(5, 1, Rows.LONGEST_ROW_OF_5).solid(), 92);
        Check.due("92 in a ring", Check.withReads(5, 1, Rows.LARGEST_RING_OF_5).solid(), 92);
    }

    private static void promise12MirrorsAreOne() {
        Check.due("a row", Check.withReads(3, 1, "00113").chains(), 1);
        Check.due("the row of the mirrors", Check.withReads(3, 1, "02233").chains(), 1);
        Check.due("both", Check.withReads(3, 1, "00113", "02233").chains(), 1);
        Check.due("a ring", Check.withReads(3, 1, "00100").chains(), 1);
        Check.due("the ring of the mirrors", Check.withReads(3, 1, "33233").chains(), 1);
        Check.due("both rings", Check.withReads(3, 1, "00100", "33233").chains(), 1);
        Check.due("a piece that its mirror follows", Check.withReads(3, 1, "0123").chains(), 1);
    }

    private static void promise12MostAndFewest() {
        Check.due("every piece alone", Check.withReads(3, 1, Rows.everyPiece(3)).chains(), 32);
        Check.due("7 in a row", Check.withReads(3, 1, Rows.LONGEST_ROW_OF_3).chains(), 1);
        Check.due("6 in a ring", Check.withReads(3, 1, Rows.LARGEST_RING_OF_3).chains(), 1);
        Check.due("92 in a row", Check.withReads(5, 1, Rows.LONGEST_ROW_OF_5).chains(), 1);
        Check.due("92 in a ring", Check.withReads(5, 1, Rows.LARGEST_RING_OF_5).chains(), 1);
    }

    private static void promise12OnePieceAndRings() {
        UnitigBuilder builder = Check.withReads(3, 1, "0101");
        Check.due("a ring", builder.chains(), 1);
        Check.readWhole(builder, "0202");
        Check.due("two rings", builder.chains(), 2);
        Check.readWhole(builder, "111");
        Check.due("and a piece that follows itself", builder.chains(), 3);
        builder.floor(2);
        Check.due("none at floor 2", builder.chains(), 0);
    }

    private static void promise13OnePiece() {
        Check.due("every piece alone", Check.withReads(3, 1, Rows.everyPiece(3)).longest(), 1);
        Check.due("one piece", Check.withReads(5, 1, "00112").longest(), 1);
        Check.due("a piece that follows itself", Check.withReads(5, 1, "22222222").longest(), 1);
        Check.due("a piece that its mirror follows", Check.withReads(3, 1, "0123").longest(), 1);
    }

    private static void promise13Greatest() {
        Check.due("7 in a row", Check.withReads(3, 1, Rows.LONGEST_ROW_OF_3).longest(), 7);
        Check.due("6 in a ring", Check.withReads(3, 1, Rows.LARGEST_RING_OF_3).longest(), 6);
        Check.due("92 in a row", Check.withReads(5, 1, Rows.LONGEST_ROW_OF_5).longest(), 92);
        Check.due("92 in a ring", Check.withReads(5, 1, Rows.LARGEST_RING_OF_5).longest(), 92);
        Check.due("92 in a row, the mirror read",
            Check.withReads(5, 1, Rows.mirror(Rows.LONGEST_ROW_OF_5)).longest(), 92);
    }

    private static void promise13Compared() {
        Check.dueWhole(Check.withReads(3, 1, "0101", "0202"), 4, 2, 2);
        Check.dueWhole(Check.withReads(3, 1, "00100", "111"), 4, 2, 3);
        Check.dueWhole(Check.withReads(5, 1, "010101", "0011203"), 5, 2, 3);
        Check.dueWhole(Check.withReads(5, 1, "0011203", "010101"), 5, 2, 3);
        Check.dueWhole(Check.withReads(5, 1, "00100100", "112033"), 5, 2, 3);
    }
}
