import java.util.function.ToIntFunction;

/** The boundary cases of promises 5 to 10: probe, turn, count, chain, before and step. */
public final class ProbeBoundaryTest {
    public static void main(String[] args) {
        Check.test("Promise 5, letter & 3: letters below 0 and above 3", ProbeBoundaryTest::promise5LettersOutside);
        Check.test("Promise 5, the number of its letters: 1 at the first letter, k at the last call too",
            ProbeBoundaryTest::promise5FromOneToK);
        Check.test("Promise 5, with k letters the first is taken off, with k - 1 it is not",
            ProbeBoundaryTest::promise5FirstLetterIsTakenOff);
        Check.test("Promise 5, the probe is no read: no letter is taken, nothing is counted",
            ProbeBoundaryTest::promise5IsNoRead);
        Check.test("Promise 6, turn of an empty probe", ProbeBoundaryTest::promise6EmptyProbe);
        Check.test("Promise 6, turn of a probe of 1 to k letters, for every row", ProbeBoundaryTest::promise6EveryRow);
        Check.test("Promise 6, turn of a probe that was never seen, and with nothing read",
            ProbeBoundaryTest::promise6NeverSeen);
        Check.test("Promise 7, 0 if it was never seen", ProbeBoundaryTest::promise7NeverSeen);
        Check.test("Promise 7, -1 with 0 to k - 1 letters", ProbeBoundaryTest::promise7ShortProbe);
        Check.test("Promise 7, -1 only then: a piece that is not solid has its count",
            ProbeBoundaryTest::promise7NotSolid);
        Check.test("Promise 7, the greatest count that 96 letters can give", ProbeBoundaryTest::promise7GreatestCount);
        Check.test("Promise 8, -1 with too few letters, never seen, below the floor",
            ProbeBoundaryTest::promise8Refused);
        Check.test("Promise 8, a chain of one piece", ProbeBoundaryTest::promise8OnePiece);
        Check.test("Promise 8, the longest row: 7 pieces of 3 letters, 92 of 5", ProbeBoundaryTest::promise8LongestRow);
        Check.test("Promise 8, the largest ring: 6 pieces of 3 letters, 92 of 5",
            ProbeBoundaryTest::promise8LargestRing);
        Check.test("Promise 9, -1 with too few letters, never seen, below the floor",
            ProbeBoundaryTest::promise9Refused);
        Check.test("Promise 9, 0 at the first piece of a chain to all but one at the last",
            ProbeBoundaryTest::promise9FirstToLast);
        Check.test("Promise 9, 0 in a chain of one piece, though it follows itself or its mirror",
            ProbeBoundaryTest::promise9OnePiece);
        Check.test("Promise 9, -2 at every piece of a ring, the least and the largest",
            ProbeBoundaryTest::promise9Ring);
        Check.test("Promise 9, -1 and not -2 if a ring is no longer solid",
            ProbeBoundaryTest::promise9RingBelowTheFloor);
        Check.test("Promise 10, -1 if the probe has not k letters, nothing is changed",
            ProbeBoundaryTest::promise10ShortProbe);
        Check.test("Promise 10, -1 if the probe is not solid, nothing is changed",
            ProbeBoundaryTest::promise10NotSolid);
        Check.test("Promise 10, -1 if it is linked with none after it, nothing is changed",
            ProbeBoundaryTest::promise10NoneAfter);
        Check.test("Promise 10, the last letter 0 is an answer, not a refusal", ProbeBoundaryTest::promise10LetterZero);
        Check.test("Promise 10, from the first to the last piece of the longest row",
            ProbeBoundaryTest::promise10LongestRow);
        Check.test("Promise 10, in a ring it comes round to where it began", ProbeBoundaryTest::promise10Ring);
        Check.finish();
    }

    private static void promise5LettersOutside() {
        for (int letter : Check.WILD) {
            UnitigBuilder builder = Check.withReads(5, 1, (letter & 3) + "010" + (letter & 3));
            Check.due("first letter " + letter, builder.probe(letter), 1);
            Check.probe(builder, "010");
            Check.due("last letter " + letter, builder.probe(letter), 5);
            Check.due("count with letter " + letter, builder.count(), 1);
        }
    }

    private static void promise5FromOneToK() {
        for (int k : Check.SIZES) {
            UnitigBuilder builder = new UnitigBuilder(k, 1);
            for (int call = 1; call <= 512; call++) {
                Check.due("probe as call " + call, builder.probe(call), Math.min(call, k));
            }
        }
    }

    private static void promise5FirstLetterIsTakenOff() {
        for (String row : new String[] {"012001", "01203312"}) {
            int k = row.length() == 6 ? 3 : 5;
            UnitigBuilder builder = Check.withReads(k, 1, row);
            Check.probe(builder, row.substring(0, k - 1));
            for (int place = k - 1; place < row.length(); place++) {
                builder.probe(row.charAt(place) - '0');
                Check.due("count at letter " + place + " of " + row, builder.count(), 1);
            }
            builder.probe(0);
            Check.due("count past the end of " + row, builder.count(), 0);
        }
    }

    private static void promise5IsNoRead() {
        UnitigBuilder builder = new UnitigBuilder(3, 1);
        Check.read(builder, "00");
        Check.probe(builder, "0000");
        Check.due("count", builder.count(), 0);
        Check.dueWhole(builder, 0, 0, 0);
        Check.due("letters taken", builder.read(0), 3);
        Check.due("count of the open read", builder.count(), 1);
    }

    private static void promise6EmptyProbe() {
        for (int k : Check.SIZES) {
            UnitigBuilder builder = Check.withReads(k, 1, "0".repeat(k));
            builder.turn();
            Check.due("count", builder.count(), -1);
            builder.turn();
            for (int letters = 1; letters <= k; letters++) {
                Check.due("letters after the turn", builder.probe(0), letters);
            }
            Check.due("count of the zeros", builder.count(), 1);
        }
    }

    private static void promise6EveryRow() {
        for (int k : Check.SIZES) {
            for (int length = 1; length <= k; length++) {
                for (String row : Rows.ofLength(length)) {
                    dueTurned(k, row);
                }
            }
        }
    }

    /** One letter more tells a full probe from its mirror, whose count is the same. */
    private static void dueTurned(int k, String row) {
        String rest = "0".repeat(Math.max(1, k - row.length()));
        String grown = Rows.mirror(row) + rest;
        UnitigBuilder builder = Check.withReads(k, 1, grown.substring(grown.length() - k));
        Check.probe(builder, row);
        builder.turn();
        int letters = 0;
        for (int call = 0; call < rest.length(); call++) {
            letters = builder.probe(0);
        }
        Check.due("letters of " + row + " turned, and zeros", letters, k);
        Check.due("count of " + row + " turned, and zeros", builder.count(), 1);
    }

    private static void promise6NeverSeen() {
        UnitigBuilder builder = new UnitigBuilder(3, 1);
        Check.probe(builder, "211");
        builder.turn();
        Check.due("count with nothing read", builder.count(), 0);
        Check.readWhole(builder, "211");
        Check.due("count of the mirror of what was read since", builder.count(), 1);
        Check.readWhole(builder, "213");
        builder.probe(3);
        Check.due("221 and 3 are 213", builder.count(), 1);
    }

    private static void promise7NeverSeen() {
        for (int k : Check.SIZES) {
            UnitigBuilder builder = new UnitigBuilder(k, 1);
            Check.dueCount(builder, "0".repeat(k), 0);
            Check.readWhole(builder, "0".repeat(k));
            Check.dueCount(builder, "1".repeat(k), 0);
            Check.dueCount(builder, "0".repeat(k - 1) + "1", 0);
            Check.dueCount(builder, "1" + "0".repeat(k - 1), 0);
        }
        // 100 is 001 reversed and 332 is made of its partners: neither is its mirror.
        UnitigBuilder once = Check.withReads(3, 1, "001");
        Check.dueCount(once, "100", 0);
        Check.dueCount(once, "332", 0);
    }

    private static void promise7ShortProbe() {
        for (int k : Check.SIZES) {
            UnitigBuilder builder = Check.withReads(k, 1, "0000000");
            for (int letters = 0; letters < k; letters++) {
                Check.due("count with " + letters + " letters", builder.count(), -1);
                builder.turn();
                Check.due("count with " + letters + " letters turned", builder.count(), -1);
                builder.turn();
                builder.probe(0);
            }
            Check.due("count with all letters", builder.count(), 7 - k + 1);
        }
    }

    private static void promise7NotSolid() {
        UnitigBuilder builder = Check.withReads(3, 9, "0".repeat(10), "010");
        Check.dueCount(builder, "000", 8);
        Check.due("000 is not solid", builder.chain(), -1);
        Check.dueCount(builder, "010", 1);
        Check.dueCount(builder, "323", 1);
        Check.dueCount(builder, "111", 0);
        Check.dueWhole(builder, 0, 0, 0);
    }

    private static void promise7GreatestCount() {
        for (int k : Check.SIZES) {
            UnitigBuilder builder = Check.withReads(k, 9, "0".repeat(96));
            Check.dueCount(builder, "0".repeat(k), 96 - k + 1);
            Check.dueCount(builder, "3".repeat(k), 96 - k + 1);
            Check.duePlace(builder, "3".repeat(k), 1, 0);
        }
    }

    private static void promise8Refused() {
        dueRefusals(UnitigBuilder::chain, 1);
    }

    private static void promise9Refused() {
        dueRefusals(UnitigBuilder::before, 0);
    }

    /** The row of zeros is solid, a chain of one piece; with 1 at its end it is seen once at floor 2. */
    private static void dueRefusals(ToIntFunction<UnitigBuilder> call, int whenSolid) {
        for (int k : Check.SIZES) {
            UnitigBuilder builder = Check.withReads(k, 2, "0".repeat(k + 1), "0".repeat(k - 1) + "1");
            for (int letters = 0; letters < k; letters++) {
                Check.due("with " + letters + " letters", call.applyAsInt(builder), -1);
                builder.probe(0);
            }
            Check.due("solid", call.applyAsInt(builder), whenSolid);
            builder.probe(1);
            Check.due("seen once at floor 2", call.applyAsInt(builder), -1);
            builder.probe(1);
            Check.due("never seen", call.applyAsInt(builder), -1);
        }
    }

    private static void promise8OnePiece() {
        for (String piece : new String[] {"000", "012", "010", "00000", "00123", "01010"}) {
            UnitigBuilder builder = Check.withReads(piece.length(), 1, piece);
            Check.probe(builder, piece);
            Check.due("chain of " + piece, builder.chain(), 1);
            builder.turn();
            Check.due("chain of the mirror of " + piece, builder.chain(), 1);
        }
    }

    private static void promise8LongestRow() {
        dueChainAtEveryPlace(3, Rows.LONGEST_ROW_OF_3);
        dueChainAtEveryPlace(5, Rows.LONGEST_ROW_OF_5);
    }

    private static void promise8LargestRing() {
        dueChainAtEveryPlace(3, Rows.LARGEST_RING_OF_3);
        dueChainAtEveryPlace(5, Rows.LARGEST_RING_OF_5);
    }

    private static void dueChainAtEveryPlace(int k, String row) {
        UnitigBuilder builder = Check.withReads(k, 1, row);
        Check.probe(builder, row.substring(0, k - 1));
        for (int place = k - 1; place < row.length(); place++) {
            builder.probe(row.charAt(place) - '0');
            Check.due("chain at letter " + place, builder.chain(), row.length() - k + 1);
        }
        builder.turn();
        Check.due("chain of a mirror", builder.chain(), row.length() - k + 1);
    }

    private static void promise9FirstToLast() {
        dueBeforeAtEveryPlace(3, Rows.LONGEST_ROW_OF_3);
        dueBeforeAtEveryPlace(5, Rows.LONGEST_ROW_OF_5);
    }

    private static void dueBeforeAtEveryPlace(int k, String row) {
        UnitigBuilder builder = Check.withReads(k, 1, row);
        Check.probe(builder, row.substring(0, k - 1));
        int last = row.length() - k;
        for (int place = 0; place <= last; place++) {
            builder.probe(row.charAt(place + k - 1) - '0');
            Check.due("before at place " + place, builder.before(), place);
        }
        builder.turn();
        Check.due("before the last one turned", builder.before(), 0);
        Check.probe(builder, row.substring(0, k));
        builder.turn();
        Check.due("before the first one turned", builder.before(), last);
    }

    private static void promise9OnePiece() {
        for (String piece : new String[] {"000", "333", "012", "123", "010", "00000", "00123", "01010"}) {
            UnitigBuilder builder = Check.withReads(piece.length(), 1, piece);
            Check.probe(builder, piece);
            Check.due("before " + piece, builder.before(), 0);
        }
    }

    private static void promise9Ring() {
        int[] sizes = {3, 5, 3, 5};
        String[] rings = {"0101", "010101", Rows.LARGEST_RING_OF_3, Rows.LARGEST_RING_OF_5};
        for (int at = 0; at < rings.length; at++) {
            UnitigBuilder builder = Check.withReads(sizes[at], 1, rings[at]);
            Check.probe(builder, rings[at].substring(0, sizes[at] - 1));
            for (int place = sizes[at] - 1; place < rings[at].length(); place++) {
                builder.probe(rings[at].charAt(place) - '0');
                Check.due("before at letter " + place, builder.before(), -2);
            }
            builder.turn();
            Check.due("before a mirror", builder.before(), -2);
        }
    }

    private static void promise9RingBelowTheFloor() {
        UnitigBuilder builder = Check.withReads(3, 1, "0101", "111");
        Check.probe(builder, "010");
        Check.due("a ring beside another piece", builder.before(), -2);
        builder.floor(2);
        Check.due("below the floor", builder.before(), -1);
        Check.readWhole(builder, "0101");
        Check.due("a ring again", builder.before(), -2);
        Check.readWhole(builder, "010");
        builder.floor(3);
        Check.due("only 010 is solid", builder.before(), 0);
    }

    private static void promise10ShortProbe() {
        for (int k : Check.SIZES) {
            UnitigBuilder builder = Check.withReads(k, 1, "0".repeat(k) + "1");
            for (int letters = 0; letters < k; letters++) {
                Check.due("step with " + letters + " letters", builder.step(), -1);
                Check.due("letters after it", builder.probe(0), letters + 1);
            }
            Check.due("the probe has its letters", builder.count(), 1);
        }
    }

    private static void promise10NotSolid() {
        UnitigBuilder builder = Check.withReads(3, 2, "0011", "0011", "0102");
        Check.probe(builder, "222");
        Check.due("never seen", builder.step(), -1);
        Check.due("222 is still the probe", builder.count(), 0);
        Check.probe(builder, "010");
        Check.due("seen once at floor 2", builder.step(), -1);
        Check.due("010 is still the probe", builder.count(), 1);
        builder.floor(1);
        Check.due("at floor 1 it steps to 102", builder.step(), 2);
        Check.probe(builder, "00");
        Check.due("2, 0 and 0 were never read", builder.step(), -1);
        builder.probe(1);
        builder.floor(2);
        Check.due("001 steps to 011", builder.step(), 1);
    }

    private static void promise10NoneAfter() {
        dueRefusedStep("nothing follows", "001", "101", "001");
        dueRefusedStep("two follow", "001", "001", "010", "011");
        dueRefusedStep("what follows follows another too", "001", "001", "011", "101");
        dueRefusedStep("it follows itself", "000", "000");
        dueRefusedStep("its mirror follows", "012", "012");
        dueRefusedStep("nothing follows", "00112", "00112");
        dueRefusedStep("two follow", "00112", "00112", "01120", "01123");
        dueRefusedStep("what follows follows another too", "00112", "00112", "01120", "10112");
        dueRefusedStep("it follows itself", "22222", "22222");
        dueRefusedStep("its mirror follows", "00123", "00123");
    }

    /** The piece stays the probe: with one letter more it is what was read for that alone. */
    private static void dueRefusedStep(String what, String piece, String... reads) {
        UnitigBuilder builder = Check.withReads(piece.length(), 1, reads);
        Check.probe(builder, piece);
        int before = builder.before();
        for (int call = 1; call <= 3; call++) {
            Check.due(what + ", step of " + piece, builder.step(), -1);
            Check.due(what + ", before " + piece, builder.before(), before);
            Check.due(what + ", count of " + piece, builder.count(), 1);
        }
        Check.readWhole(builder, piece.substring(1) + "3");
        Check.due(what + ", letters of " + piece, builder.probe(3), piece.length());
        Check.holds(what + ", " + piece + " is still the probe", builder.count() >= 1);
    }

    private static void promise10LetterZero() {
        for (String row : new String[] {"0110", "001120"}) {
            UnitigBuilder builder = Check.withReads(row.length() - 1, 1, row);
            Check.probe(builder, row.substring(0, row.length() - 1));
            Check.due("step in " + row, builder.step(), 0);
            Check.due("before after it", builder.before(), 1);
            Check.due("step at the end", builder.step(), -1);
        }
    }

    private static void promise10LongestRow() {
        dueStepsAlong(3, Rows.LONGEST_ROW_OF_3);
        dueStepsAlong(5, Rows.LONGEST_ROW_OF_5);
    }

    private static void dueStepsAlong(int k, String row) {
        UnitigBuilder builder = Check.withReads(k, 1, row);
        Check.probe(builder, row.substring(0, k));
        for (int place = k; place < row.length(); place++) {
            Check.due("step to letter " + place, builder.step(), row.charAt(place) - '0');
        }
        int last = row.length() - k;
        for (int call = 1; call <= 3; call++) {
            Check.due("step past the end", builder.step(), -1);
            Check.due("before the last", builder.before(), last);
        }
    }

    private static void promise10Ring() {
        dueStepsRound(3, "0101");
        dueStepsRound(5, "010101");
        dueStepsRound(3, Rows.LARGEST_RING_OF_3);
        dueStepsRound(5, Rows.LARGEST_RING_OF_5);
    }

    private static void dueStepsRound(int k, String ring) {
        UnitigBuilder builder = Check.withReads(k, 1, ring);
        Check.probe(builder, ring.substring(0, k));
        int pieces = ring.length() - k + 1;
        for (int step = 0; step < 2 * pieces + 1; step++) {
            Check.due("step " + step + " round " + ring, builder.step(), ring.charAt((step + k) % pieces) - '0');
        }
    }
}
