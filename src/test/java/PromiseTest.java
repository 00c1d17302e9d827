/** Ordinary inputs for each promise, with answers worked out by hand; the boundary tests have the edges. */
public final class PromiseTest {
    public static void main(String[] args) {
        Check.test("Promise 1, pieces of 3 and of 5 letters, and a floor", PromiseTest::promise1);
        Check.test("Promises 2 and 3, letters of several reads", PromiseTest::promises2And3);
        Check.test("Promise 4, the floor raised and lowered", PromiseTest::promise4);
        Check.test("Promises 5 and 6, a probe that is moved on and turned", PromiseTest::promises5And6);
        Check.test("Promise 7, counts of pieces and mirrors", PromiseTest::promise7);
        Check.test("Promises 8 and 9, a row of 3 letters a piece", PromiseTest::promises8And9);
        Check.test("Promises 8 and 9, a row of 5 letters a piece", PromiseTest::promises8And9LongPieces);
        Check.test("Promises 8 and 9, a branch cuts a row", PromiseTest::promises8And9Branch);
        Check.test("Promises 8 and 9, a row joined from several reads", PromiseTest::promises8And9SeveralReads);
        Check.test("Promises 8 and 9, a ring of five", PromiseTest::promises8And9Ring);
        Check.test("Promise 10, steps along a row and back", PromiseTest::promise10);
        Check.test("Promises 11, 12 and 13, rows, rings and pieces alone", PromiseTest::promises11To13);
        Check.finish();
    }

    private static void promise1() {
        Check.dueWhole(Check.withReads(3, 1, "001120331"), 7, 5, 3);
        Check.dueWhole(Check.withReads(5, 1, "001120331"), 5, 1, 5);
        Check.dueWhole(Check.withReads(3, 2, "0011", "0011", "120"), 2, 1, 2);
    }

    private static void promises2And3() {
        UnitigBuilder builder = new UnitigBuilder(3, 1);
        for (int taken = 1; taken <= 3; taken++) {
            Check.due("letter " + taken, builder.read(taken / 3), taken);
        }
        builder.endRead();
        for (int taken = 4; taken <= 6; taken++) {
            Check.due("letter " + taken, builder.read(taken % 4), taken);
        }
        Check.dueCount(builder, "001", 1);
        Check.dueCount(builder, "012", 1);
        Check.due("001 and 012, nothing between", builder.solid(), 2);
    }

    private static void promise4() {
        UnitigBuilder builder = Check.withReads(3, 1, "000", "000", "010");
        Check.due("solid at 1", builder.solid(), 2);
        builder.floor(2);
        Check.due("solid at 2", builder.solid(), 1);
        builder.floor(3);
        Check.due("solid at 3", builder.solid(), 0);
        builder.floor(1);
        Check.due("solid at 1 again", builder.solid(), 2);
    }

    private static void promises5And6() {
        UnitigBuilder builder = Check.withReads(3, 1, "0011");
        Check.due("one letter", builder.probe(0), 1);
        Check.due("two letters", builder.probe(0), 2);
        Check.due("three letters", builder.probe(1), 3);
        Check.due("001 is the first", builder.before(), 0);
        builder.turn();
        Check.due("233 is the last", builder.before(), 1);
        builder.turn();
        Check.due("still three letters", builder.probe(1), 3);
        Check.due("011 is the last", builder.before(), 1);
        builder.turn();
        Check.due("223 steps to 233", builder.step(), 3);

        UnitigBuilder partial = Check.withReads(5, 1, "10123");
        Check.probe(partial, "32");
        partial.turn();
        Check.probe(partial, "123");
        Check.due("32 turned is 10", partial.count(), 1);
    }

    private static void promise7() {
        UnitigBuilder builder = Check.withReads(3, 1, "0123", "0000", "333", "001");
        Check.dueCount(builder, "012", 2);
        Check.dueCount(builder, "123", 2);
        Check.dueCount(builder, "000", 3);
        Check.dueCount(builder, "333", 3);
        Check.dueCount(builder, "001", 1);
        Check.dueCount(builder, "233", 1);
        Check.dueCount(builder, "321", 0);
    }

    private static void promises8And9() {
        UnitigBuilder builder = Check.withReads(3, 1, "00113");
        String[] row = {"001", "011", "113"};
        for (int place = 0; place < 3; place++) {
            Check.duePlace(builder, row[place], 3, place);
            Check.duePlace(builder, Rows.mirror(row[place]), 3, 2 - place);
        }
    }

    private static void promises8And9LongPieces() {
        UnitigBuilder builder = Check.withReads(5, 1, "001120331");
        String[] row = {"00112", "01120", "11203", "12033", "20331"};
        for (int place = 0; place < 5; place++) {
            Check.duePlace(builder, row[place], 5, place);
            Check.duePlace(builder, Rows.mirror(row[place]), 5, 4 - place);
        }
        Check.readWhole(builder, "11202");
        Check.duePlace(builder, "01120", 2, 1);
        Check.duePlace(builder, "20331", 3, 2);
        Check.duePlace(builder, "11202", 1, 0);
    }

    private static void promises8And9Branch() {
        UnitigBuilder forked = Check.withReads(3, 1, "00113", "110");
        Check.duePlace(forked, "001", 2, 0);
        Check.duePlace(forked, "011", 2, 1);
        Check.duePlace(forked, "113", 1, 0);
        Check.duePlace(forked, "110", 1, 0);

        UnitigBuilder joined = Check.withReads(3, 1, "00113", "211");
        Check.duePlace(joined, "001", 2, 0);
        Check.duePlace(joined, "113", 1, 0);
        Check.duePlace(joined, "211", 1, 0);
    }

    private static void promises8And9SeveralReads() {
        // 022 is the mirror of 113.
        UnitigBuilder builder = Check.withReads(3, 1, "001", "022", "011");
        Check.duePlace(builder, "001", 3, 0);
        Check.duePlace(builder, "011", 3, 1);
        Check.duePlace(builder, "113", 3, 2);
    }

    private static void promises8And9Ring() {
        UnitigBuilder builder = Check.withReads(5, 1, "001010010");
        for (String piece : new String[] {"00101", "01010", "10100", "01001", "10010"}) {
            Check.duePlace(builder, piece, 5, -2);
            Check.duePlace(builder, Rows.mirror(piece), 5, -2);
        }
    }

    private static void promise10() {
        UnitigBuilder builder = Check.withReads(3, 1, "00113");
        Check.probe(builder, "001");
        Check.due("to 011", builder.step(), 1);
        Check.due("to 113", builder.step(), 3);
        Check.due("none after 113", builder.step(), -1);
        builder.turn();
        Check.due("from 022 to 223", builder.step(), 3);
        Check.due("to 233", builder.step(), 3);
        Check.due("none after 233", builder.step(), -1);
        builder.turn();
        Check.due("001 again", builder.before(), 0);
    }

    private static void promises11To13() {
        // 001 and 012 are linked; 000 follows itself, and 001 follows it.
        Check.dueWhole(Check.withReads(3, 1, "0123", "0000", "333", "001"), 3, 2, 2);
        Check.dueWhole(Check.withReads(3, 1, "00113"), 3, 1, 3);
        Check.dueWhole(Check.withReads(3, 1, "00113", "110"), 4, 3, 2);
        Check.dueWhole(Check.withReads(3, 1, "0101", "0202", "111"), 5, 3, 2);
    }
}
