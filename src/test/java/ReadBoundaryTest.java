/** The boundary cases of promises 1 to 4: a new object, read, endRead and floor. */
public final class ReadBoundaryTest {
    public static void main(String[] args) {
        Check.test("Promise 1, size: k is 3 if size is 3 or less, down to the least int",
            ReadBoundaryTest::promise1SizeThreeOrLess);
        Check.test("Promise 1, size: else k is 5, from 4 up to the greatest int",
            ReadBoundaryTest::promise1SizeFourOrMore);
        Check.test("Promise 1, floor: less than 1 becomes 1", ReadBoundaryTest::promise1FloorTooSmall);
        Check.test("Promise 1, floor: 1 to 9 are kept", ReadBoundaryTest::promise1FloorKept);
        Check.test("Promise 1, floor: more than 9 becomes 9", ReadBoundaryTest::promise1FloorTooLarge);
        Check.test("Promise 1, new object: nothing read, nothing solid, an empty probe",
            ReadBoundaryTest::promise1Empty);
        Check.test("Promise 1, new object: it shares nothing with another one", ReadBoundaryTest::promise1Apart);
        Check.test("Promise 2, letter & 3: letters below 0 and above 3", ReadBoundaryTest::promise2LettersOutside);
        Check.test("Promise 2, a new read begins at the start: k - 1 letters are no piece, k are one",
            ReadBoundaryTest::promise2ReadBeginsAtTheStart);
        Check.test("Promise 2, a new read begins after endRead", ReadBoundaryTest::promise2ReadBeginsAfterEndRead);
        Check.test("Promise 2, how many have been taken: 1 at the first letter to 96 at the last",
            ReadBoundaryTest::promise2FirstToLastLetter);
        Check.test("Promise 2, -1 if 96 letters have been taken: letter 97, whatever it is, to the last call",
            ReadBoundaryTest::promise2Letter97IsRefused);
        Check.test("Promise 2, changes nothing if 96 letters have been taken: the counts stay",
            ReadBoundaryTest::promise2RefusedLetterIsNotCounted);
        Check.test("Promise 3, endRead with an empty read: at the start and twice in a row",
            ReadBoundaryTest::promise3EmptyRead);
        Check.test("Promise 3, endRead after k - 1, k and k + 1 letters", ReadBoundaryTest::promise3AboutAPiece);
        Check.test("Promise 3, endRead gives no letter back and keeps counts, floor and probe",
            ReadBoundaryTest::promise3KeepsTheRest);
        Check.test("Promise 4, floor: less than 1 becomes 1", ReadBoundaryTest::promise4TooSmall);
        Check.test("Promise 4, floor: 1 to 9 are kept", ReadBoundaryTest::promise4Kept);
        Check.test("Promise 4, floor: more than 9 becomes 9", ReadBoundaryTest::promise4TooLarge);
        Check.test("Promise 4, floor: it holds for what was read before, up and down again",
            ReadBoundaryTest::promise4HoldsForOldReads);
        Check.test("Promise 4, floor: the open read goes on, counts and probe stay",
            ReadBoundaryTest::promise4KeepsTheRest);
        Check.finish();
    }

    private static void promise1SizeThreeOrLess() {
        for (int size : new int[] {3, 2, 1, 0, -1, -3, -5, Integer.MIN_VALUE + 1, Integer.MIN_VALUE}) {
            duePieceLength(size, 3);
        }
    }

    private static void promise1SizeFourOrMore() {
        for (int size : new int[] {4, 5, 6, 7, 100, Integer.MAX_VALUE - 1, Integer.MAX_VALUE}) {
            duePieceLength(size, 5);
        }
    }

    private static void duePieceLength(int size, int k) {
        UnitigBuilder builder = new UnitigBuilder(size, 1);
        for (int call = 1; call <= 8; call++) {
            Check.due("size " + size + ", probe call " + call, builder.probe(0), Math.min(call, k));
        }
        Check.read(builder, "0000000");
        Check.due("size " + size + ", places of a piece in seven letters", builder.count(), 7 - k + 1);
    }

    private static void promise1FloorTooSmall() {
        for (int floor : new int[] {0, -1, -9, Integer.MIN_VALUE + 1, Integer.MIN_VALUE}) {
            dueFloor("floor " + floor, new UnitigBuilder(3, floor), 1);
        }
    }

    private static void promise1FloorKept() {
        for (int floor = 1; floor <= 9; floor++) {
            dueFloor("floor " + floor, new UnitigBuilder(3, floor), floor);
            dueFloor("floor " + floor, new UnitigBuilder(5, floor), floor);
        }
    }

    private static void promise1FloorTooLarge() {
        for (int floor : new int[] {10, 11, 99, Integer.MAX_VALUE - 1, Integer.MAX_VALUE}) {
            dueFloor("floor " + floor, new UnitigBuilder(3, floor), 9);
        }
    }

    /** Reads one 0 more at a time: the piece of zeros is solid from the real floor on. */
    private static void dueFloor(String what, UnitigBuilder builder, int real) {
        int k = 0;
        for (int call = 0; call < 5; call++) {
            k = builder.probe(0);
        }
        Check.read(builder, "0".repeat(k - 1));
        for (int seen = 0; seen <= 11; seen++) {
            Check.due(what + ", solid at count " + seen, builder.solid(), seen >= real ? 1 : 0);
            Check.due(what + ", chain at count " + seen, builder.chain(), seen >= real ? 1 : -1);
            builder.read(0);
        }
    }

    private static void promise1Empty() {
        for (int k : Check.SIZES) {
            UnitigBuilder builder = new UnitigBuilder(k, 1);
            Check.dueWhole(builder, 0, 0, 0);
            Check.due("count", builder.count(), -1);
            Check.due("chain", builder.chain(), -1);
            Check.due("before", builder.before(), -1);
            Check.due("step", builder.step(), -1);
            Check.due("probe", builder.probe(0), 1);
            Check.due("read", builder.read(0), 1);
        }
    }

    private static void promise1Apart() {
        UnitigBuilder one = Check.withReads(3, 1, "000");
        Check.probe(one, "000");
        UnitigBuilder other = new UnitigBuilder(5, 9);
        Check.dueWhole(other, 0, 0, 0);
        Check.due("letters taken by the other", other.read(0), 1);
        Check.due("probe of the other", other.probe(1), 1);
        Check.dueWhole(one, 1, 1, 1);
        Check.due("count of the first", one.count(), 1);
        Check.due("letters taken by the first", one.read(0), 4);
    }

    private static void promise2LettersOutside() {
        for (int letter : Check.WILD) {
            UnitigBuilder builder = new UnitigBuilder(3, 1);
            builder.read(letter);
            builder.read(0);
            builder.read(letter);
            Check.dueCount(builder, (letter & 3) + "0" + (letter & 3), 1);
            Check.dueWhole(builder, 1, 1, 1);
        }
    }

    private static void promise2ReadBeginsAtTheStart() {
        for (String piece : new String[] {"201", "20131"}) {
            UnitigBuilder builder = new UnitigBuilder(piece.length(), 1);
            Check.read(builder, piece.substring(0, piece.length() - 1));
            Check.dueWhole(builder, 0, 0, 0);
            Check.read(builder, piece.substring(piece.length() - 1));
            Check.dueWhole(builder, 1, 1, 1);
            Check.dueCount(builder, piece, 1);
        }
    }

    private static void promise2ReadBeginsAfterEndRead() {
        for (String piece : new String[] {"201", "20131"}) {
            int k = piece.length();
            UnitigBuilder builder = Check.withReads(k, 1, piece);
            Check.read(builder, piece.substring(0, k - 1));
            Check.dueWhole(builder, 1, 1, 1);
            Check.dueCount(builder, piece, 1);
            Check.read(builder, piece.substring(k - 1));
            Check.dueWhole(builder, 1, 1, 1);
            Check.dueCount(builder, piece, 2);
        }
    }

    private static void promise2FirstToLastLetter() {
        for (int k : Check.SIZES) {
            UnitigBuilder builder = new UnitigBuilder(k, 1);
            for (int taken = 1; taken <= 96; taken++) {
                Check.due("letter " + taken, builder.read(taken), taken);
            }
        }
    }

    private static void promise2Letter97IsRefused() {
        UnitigBuilder builder = new UnitigBuilder(3, 1);
        Check.read(builder, "0".repeat(95));
        Check.due("letter 96", builder.read(0), 96);
        for (int call = 97; call <= 512; call++) {
            Check.due("read as call " + call, builder.read(Check.WILD[call % Check.WILD.length]), -1);
        }
    }

    private static void promise2RefusedLetterIsNotCounted() {
        UnitigBuilder builder = new UnitigBuilder(3, 1);
        Check.read(builder, "0".repeat(95));
        Check.dueCount(builder, "000", 93);
        builder.read(0);
        Check.due("count at 96 letters", builder.count(), 94);
        for (int letter : new int[] {0, 0, 0, 1, 1, 1, 2, 3}) {
            Check.due("refused letter " + letter, builder.read(letter), -1);
            Check.due("count after it", builder.count(), 94);
            Check.dueWhole(builder, 1, 1, 1);
        }
        builder.endRead();
        for (int letter : new int[] {1, 1, 1}) {
            Check.due("refused in a new read", builder.read(letter), -1);
            Check.dueWhole(builder, 1, 1, 1);
        }
    }

    private static void promise3EmptyRead() {
        for (String piece : new String[] {"201", "20131"}) {
            UnitigBuilder builder = new UnitigBuilder(piece.length(), 1);
            builder.endRead();
            builder.endRead();
            Check.dueWhole(builder, 0, 0, 0);
            Check.readWhole(builder, piece);
            builder.endRead();
            builder.endRead();
            Check.dueWhole(builder, 1, 1, 1);
            Check.dueCount(builder, piece, 1);
            Check.due("letters taken", builder.read(0), piece.length() + 1);
        }
    }

    private static void promise3AboutAPiece() {
        // The letters of the second read would make new pieces with those of the first.
        String[][] cases = {{"00", "0"}, {"000", "10"}, {"0001", "10"}, {"0000", "0"}, {"00000", "1000"},
            {"000001", "1000"}};
        int[] sizes = {3, 3, 3, 5, 5, 5};
        int[] solids = {0, 1, 2, 0, 1, 2};
        for (int at = 0; at < cases.length; at++) {
            UnitigBuilder builder = new UnitigBuilder(sizes[at], 1);
            Check.readWhole(builder, cases[at][0]);
            Check.due("solid after " + cases[at][0], builder.solid(), solids[at]);
            Check.read(builder, cases[at][1]);
            Check.due("solid after " + cases[at][1] + " too", builder.solid(), solids[at]);
        }
    }

    private static void promise3KeepsTheRest() {
        UnitigBuilder builder = new UnitigBuilder(3, 2);
        Check.read(builder, "0000");
        Check.probe(builder, "00");
        builder.endRead();
        Check.due("the probe", builder.probe(0), 3);
        builder.endRead();
        Check.due("the count", builder.count(), 2);
        Check.due("the letters taken", builder.read(1), 5);
        Check.read(builder, "11");
        builder.endRead();
        Check.dueWhole(builder, 1, 1, 1);
        Check.read(builder, "0".repeat(89));
        builder.endRead();
        Check.due("a full object", builder.read(0), -1);
    }

    private static void promise4TooSmall() {
        for (int first : new int[] {1, 5, 9}) {
            for (int floor : new int[] {0, -1, -9, Integer.MIN_VALUE + 1, Integer.MIN_VALUE}) {
                dueFloor("floor " + floor + " after " + first, withNewFloor(3, first, floor), 1);
            }
        }
    }

    private static void promise4Kept() {
        for (int first : new int[] {1, 5, 9}) {
            for (int floor = 1; floor <= 9; floor++) {
                dueFloor("floor " + floor + " after " + first, withNewFloor(3, first, floor), floor);
                dueFloor("floor " + floor + " after " + first, withNewFloor(5, first, floor), floor);
            }
        }
    }

    private static void promise4TooLarge() {
        for (int first : new int[] {1, 5, 9}) {
            for (int floor : new int[] {10, 11, 99, Integer.MAX_VALUE - 1, Integer.MAX_VALUE}) {
                dueFloor("floor " + floor + " after " + first, withNewFloor(3, first, floor), 9);
            }
        }
    }

    private static UnitigBuilder withNewFloor(int size, int first, int floor) {
        UnitigBuilder builder = new UnitigBuilder(size, first);
        builder.floor(floor);
        return builder;
    }

    private static void promise4HoldsForOldReads() {
        // 000 is seen nine times, 010 eight times.
        UnitigBuilder builder = Check.withReads(3, 1, "0".repeat(11));
        for (int times = 0; times < 8; times++) {
            Check.readWhole(builder, "010");
        }
        int[] floors = {1, 8, 9, 10, 9, 8, 0, Integer.MAX_VALUE, Integer.MIN_VALUE};
        int[] solids = {2, 2, 1, 1, 1, 2, 2, 1, 2};
        for (int at = 0; at < floors.length; at++) {
            builder.floor(floors[at]);
            Check.dueWhole(builder, solids[at], solids[at], 1);
            Check.duePlace(builder, "010", solids[at] == 2 ? 1 : -1, solids[at] == 2 ? 0 : -1);
            Check.due("the count is kept", builder.count(), 8);
        }
    }

    private static void promise4KeepsTheRest() {
        UnitigBuilder builder = new UnitigBuilder(3, 1);
        Check.read(builder, "00");
        Check.probe(builder, "00");
        builder.floor(9);
        Check.due("the letters taken", builder.read(0), 3);
        Check.due("the probe", builder.probe(0), 3);
        builder.floor(5);
        Check.due("the open read and the probe", builder.count(), 1);
    }
}
