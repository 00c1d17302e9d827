/**
 * The longest row and the largest ring that 96 letters can give. In both texts no four
 * neighbouring letters stand twice, as themselves or as their mirror, but for the first four of
 * the ring, which close it: so every two neighbouring pieces are linked.
 */
public final class LongChainTest {
    private static final int PIECES = 92;
    private static final String ROW =
        "211121133101300233311233032210020121321333011113012023031210100102231110231020031031131003021120";
    private static final String RING =
        "113032321131332130131033023122011001223332331231023230313231312133011133311322131110310031101130";

    public static void main(String[] args) {
        longestRow();
        largestRing();
        Check.finish();
    }

    private static UnitigBuilder holdingOneChain(String what, String letters) {
        UnitigBuilder builder = Check.withReads(5, 1, letters);
        Check.due(what + ", a letter more", builder.read(0), -1);
        Check.due(what + ", solid", builder.solid(), PIECES);
        Check.due(what + ", chains", builder.chains(), 1);
        Check.due(what + ", longest", builder.longest(), PIECES);
        Check.probe(builder, letters.substring(0, 5));
        return builder;
    }

    private static void longestRow() {
        UnitigBuilder builder = holdingOneChain("row", ROW);
        for (int place = 0; place < PIECES; place++) {
            Check.due("row, before at " + place, builder.before(), place);
            Check.due("row, chain at " + place, builder.chain(), PIECES);
            int last = place + 1 < PIECES ? ROW.charAt(place + 5) - '0' : -1;
            Check.due("row, step at " + place, builder.step(), last);
        }
        builder.turn();
        Check.due("row turned at its end, before", builder.before(), 0);
    }

    private static void largestRing() {
        UnitigBuilder builder = holdingOneChain("ring", RING);
        for (int place = 0; place < PIECES + 4; place++) {
            Check.due("ring, before at " + place, builder.before(), -2);
            Check.due("ring, chain at " + place, builder.chain(), PIECES);
            int last = RING.charAt((place + 5) % PIECES) - '0';
            Check.due("ring, step at " + place, builder.step(), last);
        }
    }
}
