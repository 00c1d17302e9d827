import java.util.ArrayList;
import java.util.List;

/** Rows of letters, written as digits. */
final class Rows {
    /**
     * The longest rows and largest rings there can be. In each of them no k - 1 neighbouring
     * letters within it stand twice, as themselves or as their mirror, but for the first ones of
     * a ring, which close it: so every two neighbouring pieces are linked. With k = 3 only six
     * pairs of letters and their mirrors can stand between two linked pieces; with k = 5 the 96
     * letters set the limit.
     */
    static final String LONGEST_ROW_OF_3 = "031001130";
    static final String LARGEST_RING_OF_3 = "00102200";
    static final String LONGEST_ROW_OF_5 =
        "211121133101300233311233032210020121321333011113012023031210100102231110231020031031131003021120";
    static final String LARGEST_RING_OF_5 =
        "113032321131332130131033023122011001223332331231023230313231312133011133311322131110310031101130";

    private Rows() {
    }

    static String mirror(String row) {
        StringBuilder partners = new StringBuilder();
        for (char letter : row.toCharArray()) {
            partners.append(3 - (letter - '0'));
        }
        return partners.reverse().toString();
    }

    static List<String> ofLength(int length) {
        List<String> rows = List.of("");
        for (int grown = 0; grown < length; grown++) {
            List<String> longer = new ArrayList<>();
            for (String row : rows) {
                for (int letter = 0; letter <= 3; letter++) {
                    longer.add(row + letter);
                }
            }
            rows = longer;
        }
        return rows;
    }

    /** A row in which every piece of k letters stands once: it goes on with what is not in it yet. */
    static String everyPiece(int k) {
        StringBuilder row = new StringBuilder("0".repeat(k));
        boolean grown = true;
        while (grown) {
            grown = false;
            for (char letter = '3'; letter >= '0' && !grown; letter--) {
                String piece = row.substring(row.length() - k + 1) + letter;
                if (row.indexOf(piece) < 0) {
                    row.append(letter);
                    grown = true;
                }
            }
        }
        return row.toString();
    }
}
