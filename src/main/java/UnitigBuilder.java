/**
 * Counts the pieces of the reads and joins the solid ones to chains.
 *
 * A row of letters is held as one number, two bits a letter, the last letter lowest, so a
 * piece is its own index into the counts. Links are worked out anew at each call: every read
 * and every new floor can change them.
 */
public final class UnitigBuilder {
    private static final int SHORT_PIECE = 3;
    private static final int LONG_PIECE = 5;
    private static final int LEAST_FLOOR = 1;
    private static final int GREATEST_FLOOR = 9;
    private static final int MOST_LETTERS = 96;
    private static final int LETTERS = 4;
    private static final int LETTER_BITS = 2;
    private static final int LETTER_MASK = 3;
    /** How many different pieces of the greatest length there are; a power of two. */
    private static final int MOST_PIECES = 1024;
    /** Put on every index, so that no number can lead out of the counts. */
    private static final int PLACE_MASK = MOST_PIECES - 1;
    private static final int NONE = -1;
    private static final int REFUSED = -1;
    private static final int RING = -2;

    /** A piece and its mirror are both kept, each with the count that the two share. */
    private final int[] counts = new int[MOST_PIECES];
    private final int pieceLength;
    /** The greatest number that stands for a piece; all its bits are set, so it is a mask too. */
    private final int lastPiece;
    /** How far apart two pieces are as numbers if only their first letters differ, by one. */
    private final int leaderGap;
    private int leastCount;
    private int lettersTaken;
    private int readTail;
    private int readTailLength;
    private int probeRow;
    private int probeLength;

    public UnitigBuilder(int size, int floor) {
        pieceLength = size <= SHORT_PIECE ? SHORT_PIECE : LONG_PIECE;
        lastPiece = (1 << (LETTER_BITS * pieceLength)) - 1;
        leaderGap = 1 << (LETTER_BITS * (pieceLength - 1));
        leastCount = withinFloors(floor);
    }

    public int read(int letter) {
        if (lettersTaken >= MOST_LETTERS) {
            return REFUSED;
        }
        lettersTaken++;
        readTail = withLetter(readTail, letter);
        readTailLength = oneLonger(readTailLength);
        if (readTailLength == pieceLength) {
            countPiece(readTail);
        }
        return lettersTaken;
    }

    public void endRead() {
        readTail = 0;
        readTailLength = 0;
    }

    public void floor(int floor) {
        leastCount = withinFloors(floor);
    }

    public int probe(int letter) {
        probeRow = withLetter(probeRow, letter);
        probeLength = oneLonger(probeLength);
        return probeLength;
    }

    public void turn() {
        probeRow = mirrorOf(probeRow, probeLength);
    }

    public int count() {
        if (probeLength != pieceLength) {
            return REFUSED;
        }
        return counts[probeRow & PLACE_MASK];
    }

    public int chain() {
        if (!probeIsSolid()) {
            return REFUSED;
        }
        int start = startOfChain(probeRow);
        return lengthFrom(start);
    }

    public int before() {
        if (!probeIsSolid()) {
            return REFUSED;
        }
        int piece = probeRow;
        for (int passed = 0; passed <= lastPiece; passed++) {
            piece = linkedBefore(piece);
            if (piece == NONE) {
                return passed;
            }
            if (piece == probeRow) {
                return RING;
            }
        }
        return RING;
    }

    public int step() {
        if (!probeIsSolid()) {
            return REFUSED;
        }
        int next = linkedAfter(probeRow);
        if (next == NONE) {
            return REFUSED;
        }
        probeRow = next;
        return next & LETTER_MASK;
    }

    public int solid() {
        int found = 0;
        for (int piece = 0; piece <= lastPiece; piece++) {
            if (isSolid(piece)) {
                found++;
            }
        }
        // No piece is its own mirror, so the solid pieces come in pairs.
        return found / 2;
    }

    public int chains() {
        int found = 0;
        for (int piece = 0; piece <= lastPiece; piece++) {
            if (isSolid(piece) && startOfChain(piece) == piece) {
                found++;
            }
        }
        // No chain holds a piece and its mirror both, so the chains come in pairs.
        return found / 2;
    }

    public int longest() {
        int greatest = 0;
        for (int piece = 0; piece <= lastPiece; piece++) {
            if (isSolid(piece) && startOfChain(piece) == piece) {
                int length = lengthFrom(piece);
                greatest = length > greatest ? length : greatest;
            }
        }
        return greatest;
    }

    private static int withinFloors(int floor) {
        if (floor < LEAST_FLOOR) {
            return LEAST_FLOOR;
        }
        return floor > GREATEST_FLOOR ? GREATEST_FLOOR : floor;
    }

    /** The mask takes the first letter off a row that has the length of a piece already. */
    private int withLetter(int row, int letter) {
        return ((row << LETTER_BITS) | (letter & LETTER_MASK)) & lastPiece;
    }

    private int oneLonger(int length) {
        return length < pieceLength ? length + 1 : pieceLength;
    }

    private static int mirrorOf(int row, int length) {
        int rest = row;
        int mirror = 0;
        for (int done = 0; done < length; done++) {
            mirror = (mirror << LETTER_BITS) | (LETTER_MASK - (rest & LETTER_MASK));
            rest >>= LETTER_BITS;
        }
        return mirror;
    }

    private void countPiece(int piece) {
        int mirror = mirrorOf(piece, pieceLength);
        counts[piece & PLACE_MASK]++;
        counts[mirror & PLACE_MASK]++;
    }

    private boolean isSolid(int piece) {
        return counts[piece & PLACE_MASK] >= leastCount;
    }

    private boolean probeIsSolid() {
        return probeLength == pieceLength && isSolid(probeRow);
    }

    private int onlyFollower(int piece) {
        int firstFollower = (piece << LETTER_BITS) & lastPiece;
        return onlySolidOfFour(firstFollower, 1);
    }

    private int onlyLeader(int piece) {
        int firstLeader = piece >> LETTER_BITS;
        return onlySolidOfFour(firstLeader, leaderGap);
    }

    /** Four pieces that differ in one letter stand a gap apart; NONE if not just one is solid. */
    private int onlySolidOfFour(int first, int gap) {
        int only = NONE;
        for (int letter = 0; letter < LETTERS; letter++) {
            int piece = first + letter * gap;
            if (isSolid(piece)) {
                if (only != NONE) {
                    return NONE;
                }
                only = piece;
            }
        }
        return only;
    }

    private boolean areSameOrMirrors(int piece, int other) {
        return piece == other || mirrorOf(piece, pieceLength) == other;
    }

    private int linkedAfter(int piece) {
        int next = onlyFollower(piece);
        if (next == NONE || onlyLeader(next) != piece || areSameOrMirrors(piece, next)) {
            return NONE;
        }
        return next;
    }

    private int linkedBefore(int piece) {
        int previous = onlyLeader(piece);
        if (previous == NONE || onlyFollower(previous) != piece || areSameOrMirrors(piece, previous)) {
            return NONE;
        }
        return previous;
    }

    /**
     * The piece of the chain that has none before it. A ring has no such piece: there its least
     * piece stands for it, so that all the pieces of a ring agree on one start.
     */
    private int startOfChain(int piece) {
        int least = piece;
        int reached = piece;
        for (int passed = 0; passed <= lastPiece; passed++) {
            int previous = linkedBefore(reached);
            if (previous == NONE) {
                return reached;
            }
            if (previous == piece) {
                return least;
            }
            least = previous < least ? previous : least;
            reached = previous;
        }
        return least;
    }

    /** How many pieces the chain with this start has. */
    private int lengthFrom(int start) {
        int length = 1;
        int next = linkedAfter(start);
        while (next != NONE && next != start && length <= lastPiece) {
            length++;
            next = linkedAfter(next);
        }
        return length;
    }
}
