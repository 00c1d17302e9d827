/** The boundary cases of "What it is" and of the sentences under "Terms" that the promises lean on. */
public final class TermsBoundaryTest {
    public static void main(String[] args) {
        Check.test("What it is, at most 512 calls: the 512th is still answered, whichever it is",
            TermsBoundaryTest::whatItIsCall512);
        Check.test("Terms, partner: 0 and 3, 1 and 2", TermsBoundaryTest::termsPartners);
        Check.test("Terms, mirror: the mirror of the mirror is the row itself, from 0 to k letters",
            TermsBoundaryTest::termsMirrorOfTheMirror);
        Check.test("Terms, mirror: no row of odd length is its own, each piece alone has count 1",
            TermsBoundaryTest::termsNoPieceIsItsOwnMirror);
        Check.test("Terms, reads: at most 96 letters in all reads together, however they are cut",
            TermsBoundaryTest::terms96LettersTogether);
        Check.test("Terms, count: a piece stands within one read, never over its end",
            TermsBoundaryTest::termsNoPieceOverTheEndOfARead);
        Check.test("Terms, count: the open read counts too, and not again when it is ended",
            TermsBoundaryTest::termsOpenReadCounts);
        Check.test("Terms, count: overlapping places count, each once, the mirror with the piece",
            TermsBoundaryTest::termsOverlappingPlaces);
        Check.test("Terms, solid: a count one below the floor, at the floor and one above it",
            TermsBoundaryTest::termsSolidAtTheFloor);
        Check.test("Terms, solid: a piece and its mirror have the same count, for every piece",
            TermsBoundaryTest::termsMirrorHasTheSameCount);
        Check.test("Terms, follows: all k - 1 letters must be the same, the first and the last of them too",
            TermsBoundaryTest::termsFollowsNeedsAllLetters);
        Check.test("Terms, linked: 0, 1, 2, 3 and 4 pieces that follow", TermsBoundaryTest::termsFollowers);
        Check.test("Terms, linked: 0, 1, 2, 3 and 4 pieces that are followed", TermsBoundaryTest::termsLeaders);
        Check.test("Terms, linked: a piece that is not solid neither links nor hinders a link",
            TermsBoundaryTest::termsOnlySolidPiecesHinder);
        Check.test("Terms, linked: y is not x", TermsBoundaryTest::termsNotLinkedWithItself);
        Check.test("Terms, linked: y is not the mirror of x", TermsBoundaryTest::termsNotLinkedWithItsMirror);
        Check.test("Terms, linked: the mirrors are linked the other way round",
            TermsBoundaryTest::termsMirrorsAreLinked);
        Check.test("Terms, chain: it never holds a piece and its mirror both",
            TermsBoundaryTest::termsNeverBothInAChain);
        Check.test("Terms, ring: two pieces are the fewest, one that follows itself is none",
            TermsBoundaryTest::termsLeastRing);
        Check.test("Terms, ring: a row that lacks one link is none; the last letter closes it, a branch opens it",
            TermsBoundaryTest::termsRingClosedAndOpened);
        Check.test("Terms, ring: cut by its own mirror it is a row", TermsBoundaryTest::termsRingCutByItsMirror);
        Check.test("Terms, probe: 0 letters at the start, never more than k", TermsBoundaryTest::termsProbeFromZeroToK);
        Check.test("Terms, probe: chain, before and step are -1 with 0 to k - 1 letters",
            TermsBoundaryTest::termsShortProbe);
        Check.test("Terms, probe: chain, before and step are -1 if it is not solid",
            TermsBoundaryTest::termsProbeNotSolid);
        Check.finish();
    }

    private static void whatItIsCall512() {
        Check.due("read", after8CallsAndSteps(503).read(0), 6);
        Check.due("probe", after8CallsAndSteps(503).probe(0), 3);
        Check.due("count", after8CallsAndSteps(503).count(), 1);
        Check.due("chain", after8CallsAndSteps(503).chain(), 3);
        Check.due("before", after8CallsAndSteps(503).before(), -2);
        Check.due("step", after8CallsAndSteps(503).step(), 1);
        Check.due("solid", after8CallsAndSteps(503).solid(), 3);
        Check.due("chains", after8CallsAndSteps(503).chains(), 1);
        Check.due("longest", after8CallsAndSteps(503).longest(), 3);

        UnitigBuilder turned = after8CallsAndSteps(502);
        turned.turn();
        Check.due("turn as call 511, step as call 512", turned.step(), 3);
        UnitigBuilder raised = after8CallsAndSteps(502);
        raised.floor(2);
        Check.due("floor as call 511, solid as call 512", raised.solid(), 0);
        UnitigBuilder ended = after8CallsAndSteps(501);
        ended.endRead();
        ended.read(1);
        Check.due("endRead as call 510, count as call 512", ended.count(), 1);
    }

    /** Eight calls make the ring of 001, 010 and 100 and set the probe on 001; the steps go round it. */
    private static UnitigBuilder after8CallsAndSteps(int steps) {
        UnitigBuilder builder = new UnitigBuilder(3, 1);
        Check.read(builder, "00100");
        Check.probe(builder, "001");
        for (int step = 0; step < steps; step++) {
            Check.due("step " + step, builder.step(), step % 3 == 2 ? 1 : 0);
        }
        return builder;
    }

    private static void termsPartners() {
        for (int letter = 0; letter <= 3; letter++) {
            UnitigBuilder builder = Check.withReads(3, 1, (3 - letter) + "00");
            builder.probe(letter);
            builder.turn();
            Check.probe(builder, "00");
            Check.due("the partner of " + letter, builder.count(), 1);
        }
    }

    private static void termsMirrorOfTheMirror() {
        for (int k : Check.SIZES) {
            for (int length = 0; length <= k; length++) {
                for (String row : Rows.ofLength(length)) {
                    // A full probe is told from its mirror by what it is after one letter more.
                    String rest = "0".repeat(Math.max(1, k - length));
                    String piece = (row + rest).substring(row.length() + rest.length() - k);
                    UnitigBuilder builder = Check.withReads(k, 1, piece);
                    Check.probe(builder, row);
                    builder.turn();
                    builder.turn();
                    Check.probe(builder, rest);
                    Check.due("\"" + row + "\" turned twice", builder.count(), 1);
                }
            }
        }
    }

    private static void termsNoPieceIsItsOwnMirror() {
        for (int k : Check.SIZES) {
            for (String piece : Rows.ofLength(k)) {
                UnitigBuilder builder = Check.withReads(k, 1, piece);
                Check.dueCount(builder, piece, 1);
                Check.dueCount(builder, Rows.mirror(piece), 1);
                Check.dueWhole(builder, 1, 1, 1);
            }
        }
    }

    private static void terms96LettersTogether() {
        for (int readLength : new int[] {1, 2, 3, 32, 48, 95, 96}) {
            UnitigBuilder builder = new UnitigBuilder(3, 1);
            for (int taken = 1; taken <= 96; taken++) {
                Check.due("reads of " + readLength + ", letter " + taken, builder.read(taken), taken);
                if (taken % readLength == 0) {
                    builder.endRead();
                }
            }
            Check.due("reads of " + readLength + ", letter 97", builder.read(0), -1);
            builder.endRead();
            Check.due("reads of " + readLength + ", letter 97 in a new read", builder.read(0), -1);
        }
    }

    private static void termsNoPieceOverTheEndOfARead() {
        for (String piece : new String[] {"001", "00112"}) {
            for (int cut = 1; cut < piece.length(); cut++) {
                UnitigBuilder builder =
                    Check.withReads(piece.length(), 1, piece.substring(0, cut), piece.substring(cut));
                Check.dueCount(builder, piece, 0);
                Check.dueWhole(builder, 0, 0, 0);
                Check.readWhole(builder, piece);
                Check.dueCount(builder, piece, 1);
            }
        }
    }

    private static void termsOpenReadCounts() {
        for (int k : Check.SIZES) {
            UnitigBuilder builder = new UnitigBuilder(k, 1);
            String piece = "0".repeat(k);
            Check.read(builder, piece.substring(1));
            Check.dueCount(builder, piece, 0);
            Check.dueWhole(builder, 0, 0, 0);
            Check.read(builder, "0");
            Check.dueCount(builder, piece, 1);
            Check.duePlace(builder, piece, 1, 0);
            Check.dueWhole(builder, 1, 1, 1);
            builder.endRead();
            Check.dueCount(builder, piece, 1);
            Check.dueWhole(builder, 1, 1, 1);
        }
    }

    private static void termsOverlappingPlaces() {
        UnitigBuilder builder = Check.withReads(3, 1, "000333");
        Check.dueCount(builder, "000", 2);
        Check.dueCount(builder, "003", 2);
        Check.dueCount(builder, "033", 2);
        UnitigBuilder zeros = Check.withReads(5, 1, "0000000", "33333");
        Check.dueCount(zeros, "00000", 4);
    }

    private static void termsSolidAtTheFloor() {
        for (int k : Check.SIZES) {
            for (int floor = 1; floor <= 9; floor++) {
                UnitigBuilder builder = new UnitigBuilder(k, floor);
                String piece = "0".repeat(k);
                Check.read(builder, "0".repeat(k - 1 + floor - 1));
                Check.probe(builder, piece);
                Check.due("count below floor " + floor, builder.count(), floor - 1);
                Check.due("chain below floor " + floor, builder.chain(), -1);
                Check.dueWhole(builder, 0, 0, 0);
                for (int count = floor; count <= floor + 1; count++) {
                    builder.read(0);
                    Check.due("count at floor " + floor, builder.count(), count);
                    Check.due("chain at floor " + floor, builder.chain(), 1);
                    Check.dueWhole(builder, 1, 1, 1);
                }
            }
        }
    }

    private static void termsMirrorHasTheSameCount() {
        UnitigBuilder builder = Check.withReads(3, 1, "012301121332", "000", "3333", "0101010101", "2031");
        int sum = 0;
        for (char letter : Rows.everyPiece(3).toCharArray()) {
            builder.probe(letter - '0');
            int count = builder.count();
            builder.turn();
            Check.due("count of the mirror", builder.count(), count);
            builder.turn();
            sum += Math.max(0, count);
        }
        // 10, 1, 2, 8 and 2 places, each seen at the piece and at the mirror.
        Check.due("all counts together", sum, 2 * 23);
    }

    private static void termsFollowsNeedsAllLetters() {
        String[][] pairs = {{"001", "112"}, {"001", "020"}, {"00112", "11120"}, {"00112", "01130"}};
        for (String[] pair : pairs) {
            UnitigBuilder builder = Check.withReads(pair[0].length(), 1, pair);
            Check.duePlace(builder, pair[0], 1, 0);
            Check.duePlace(builder, pair[1], 1, 0);
            Check.due("chains of " + pair[0] + " and " + pair[1], builder.chains(), 2);
        }
        for (String[] pair : new String[][] {{"001", "012"}, {"00112", "01120"}}) {
            UnitigBuilder builder = Check.withReads(pair[0].length(), 1, pair);
            Check.duePlace(builder, pair[0], 2, 0);
            Check.duePlace(builder, pair[1], 2, 1);
        }
    }

    private static void termsFollowers() {
        for (String piece : new String[] {"001", "00011"}) {
            UnitigBuilder builder = Check.withReads(piece.length(), 1, piece);
            Check.duePlace(builder, piece, 1, 0);
            Check.due("step with none after", builder.step(), -1);
            for (int letter = 0; letter <= 3; letter++) {
                String follower = piece.substring(1) + letter;
                Check.readWhole(builder, follower);
                Check.duePlace(builder, follower, letter == 0 ? 2 : 1, letter == 0 ? 1 : 0);
                Check.duePlace(builder, piece, letter == 0 ? 2 : 1, 0);
                Check.due("step with " + (letter + 1) + " after", builder.step(), letter == 0 ? 0 : -1);
            }
        }
    }

    private static void termsLeaders() {
        for (String piece : new String[] {"011", "00112"}) {
            UnitigBuilder builder = Check.withReads(piece.length(), 1, piece);
            Check.duePlace(builder, piece, 1, 0);
            int last = piece.charAt(piece.length() - 1) - '0';
            for (int letter = 0; letter <= 3; letter++) {
                String leader = letter + piece.substring(0, piece.length() - 1);
                Check.readWhole(builder, leader);
                Check.duePlace(builder, piece, letter == 0 ? 2 : 1, letter == 0 ? 1 : 0);
                Check.duePlace(builder, leader, letter == 0 ? 2 : 1, 0);
                Check.due("step of leader " + letter, builder.step(), letter == 0 ? last : -1);
            }
        }
    }

    private static void termsOnlySolidPiecesHinder() {
        UnitigBuilder builder = Check.withReads(3, 2, "0011", "0011", "010", "101");
        Check.duePlace(builder, "001", 2, 0);
        Check.duePlace(builder, "011", 2, 1);
        Check.duePlace(builder, "010", -1, -1);
        builder.floor(1);
        Check.duePlace(builder, "001", 1, 0);
        Check.duePlace(builder, "011", 1, 0);
        builder.floor(2);
        Check.duePlace(builder, "011", 2, 1);
        builder.floor(3);
        Check.duePlace(builder, "011", -1, -1);
    }

    private static void termsNotLinkedWithItself() {
        for (int k : Check.SIZES) {
            for (int letter = 0; letter <= 3; letter++) {
                String piece = String.valueOf(letter).repeat(k);
                UnitigBuilder builder = Check.withReads(k, 1, piece);
                Check.duePlace(builder, piece, 1, 0);
                Check.due("step of " + piece, builder.step(), -1);
            }
        }
        // 000 follows itself beside 100: two, so there is no link to it.
        UnitigBuilder entered = Check.withReads(3, 1, "1000");
        Check.duePlace(entered, "100", 1, 0);
        Check.duePlace(entered, "000", 1, 0);
    }

    private static void termsNotLinkedWithItsMirror() {
        String[] rows = {"0123", "1032", "2301", "001233", "310320"};
        for (String row : rows) {
            int k = row.length() - 1;
            UnitigBuilder builder = Check.withReads(k, 1, row);
            Check.duePlace(builder, row.substring(0, k), 1, 0);
            Check.due("step of the first of " + row, builder.step(), -1);
            Check.duePlace(builder, row.substring(1), 1, 0);
            Check.dueWhole(builder, 1, 1, 1);
        }
    }

    private static void termsMirrorsAreLinked() {
        UnitigBuilder builder = Check.withReads(3, 1, "00113");
        Check.duePlace(builder, "022", 3, 0);
        Check.due("022, the mirror of 113, to 223", builder.step(), 3);
        Check.due("223, the mirror of 011, to 233", builder.step(), 3);
        Check.due("none after 233, the mirror of 001", builder.step(), -1);
        Check.duePlace(builder, "233", 3, 2);
    }

    private static void termsNeverBothInAChain() {
        // 301, 012, 123, 230 follow each other, but 123 is the mirror of 012: two chains of two.
        UnitigBuilder builder = Check.withReads(3, 1, "30123");
        Check.duePlace(builder, "301", 2, 0);
        Check.duePlace(builder, "012", 2, 1);
        Check.duePlace(builder, "123", 2, 0);
        Check.duePlace(builder, "230", 2, 1);
        Check.dueWhole(builder, 2, 1, 2);
    }

    private static void termsLeastRing() {
        UnitigBuilder two = Check.withReads(3, 1, "0101");
        for (String piece : new String[] {"010", "101", "323", "232"}) {
            Check.duePlace(two, piece, 2, -2);
        }
        Check.dueWhole(two, 2, 1, 2);
        UnitigBuilder longTwo = Check.withReads(5, 1, "010101");
        Check.duePlace(longTwo, "01010", 2, -2);
        Check.duePlace(longTwo, "23232", 2, -2);
        UnitigBuilder one = Check.withReads(3, 1, "111111");
        Check.duePlace(one, "111", 1, 0);
        Check.duePlace(one, "222", 1, 0);
        Check.dueWhole(one, 1, 1, 1);
    }

    private static void termsRingClosedAndOpened() {
        UnitigBuilder builder = new UnitigBuilder(3, 1);
        Check.read(builder, "0010");
        Check.duePlace(builder, "001", 2, 0);
        Check.duePlace(builder, "010", 2, 1);
        Check.readWhole(builder, "0");
        String[] ring = {"001", "010", "100"};
        for (String piece : ring) {
            Check.duePlace(builder, piece, 3, -2);
            Check.duePlace(builder, Rows.mirror(piece), 3, -2);
        }
        Check.readWhole(builder, "000");
        for (int place = 0; place < 3; place++) {
            Check.duePlace(builder, ring[place], 3, place);
            Check.duePlace(builder, Rows.mirror(ring[place]), 3, 2 - place);
        }
        Check.readWhole(builder, "00100");
        builder.floor(2);
        Check.duePlace(builder, "100", 3, -2);
    }

    private static void termsRingCutByItsMirror() {
        // 32103, the mirror of 03210, follows 03210 as 32100 does.
        UnitigBuilder builder = Check.withReads(5, 1, "321003210");
        String[] row = {"32100", "21003", "10032", "00321", "03210"};
        for (int place = 0; place < 5; place++) {
            Check.duePlace(builder, row[place], 5, place);
        }
    }

    private static void termsProbeFromZeroToK() {
        for (int k : Check.SIZES) {
            UnitigBuilder builder = new UnitigBuilder(k, 1);
            Check.due("count of the empty probe", builder.count(), -1);
            for (int call = 1; call <= 3 * k; call++) {
                Check.due("probe call " + call, builder.probe(call), Math.min(call, k));
            }
        }
    }

    /** Each short probe is the end of a solid piece that has only 0 before it: it must not pass as that piece. */
    private static void termsShortProbe() {
        String[][] cases = {{"000", "", "0", "00"}, {"0010", "1", "01"}, {"0000000", "", "0", "00", "000", "0000"},
            {"001011", "101", "0101"}};
        for (String[] texts : cases) {
            for (int at = 1; at < texts.length; at++) {
                UnitigBuilder builder = Check.withReads(texts[0].length() > 4 ? 5 : 3, 1, texts[0]);
                Check.probe(builder, texts[at]);
                dueNothing("\"" + texts[at] + "\"", builder);
            }
        }
    }

    private static void termsProbeNotSolid() {
        UnitigBuilder builder = Check.withReads(3, 2, "0011", "0011", "00102");
        Check.probe(builder, "222");
        dueNothing("never seen", builder);
        Check.probe(builder, "010");
        dueNothing("seen once at floor 2", builder);
        builder.turn();
        dueNothing("the mirror of that", builder);
        Check.duePlace(builder, "001", 2, 0);
        builder.floor(4);
        dueNothing("seen three times at floor 4", builder);
    }

    private static void dueNothing(String what, UnitigBuilder builder) {
        Check.due("chain, " + what, builder.chain(), -1);
        Check.due("before, " + what, builder.before(), -1);
        Check.due("step, " + what, builder.step(), -1);
    }
}
