import java.util.ArrayDeque;
import java.util.ArrayList;
import java.util.Deque;
import java.util.HashMap;
import java.util.HashSet;
import java.util.List;
import java.util.Map;
import java.util.Set;
import java.util.TreeSet;

/**
 * The document's terms put into code as they stand there, over strings and sets and with no
 * regard to speed: a second way to each answer, for comparing with the class.
 */
final class PlainModel {
    private final int k;
    private final List<StringBuilder> reads = new ArrayList<>();
    private int floor;
    private int taken = 0;
    private String probe = "";

    PlainModel(int size, int floor) {
        k = size <= 3 ? 3 : 5;
        reads.add(new StringBuilder());
        floor(floor);
    }

    int read(int letter) {
        if (taken == 96) {
            return -1;
        }
        reads.get(reads.size() - 1).append(letter & 3);
        taken++;
        return taken;
    }

    void endRead() {
        reads.add(new StringBuilder());
    }

    void floor(int asked) {
        floor = Math.max(1, Math.min(9, asked));
    }

    int probe(int letter) {
        probe = (probe.length() == k ? probe.substring(1) : probe) + (letter & 3);
        return probe.length();
    }

    void turn() {
        probe = Rows.mirror(probe);
    }

    int count() {
        return probe.length() == k ? counts().getOrDefault(probe, 0) : -1;
    }

    int chain() {
        Set<String> solid = solidPieces();
        return solid.contains(probe) ? chainOf(probe, solid).size() : -1;
    }

    int before() {
        Set<String> solid = solidPieces();
        if (!solid.contains(probe)) {
            return -1;
        }
        if (isRing(chainOf(probe, solid), solid)) {
            return -2;
        }
        int passed = 0;
        String at = linkedBefore(probe, solid);
        while (at != null) {
            passed++;
            at = linkedBefore(at, solid);
        }
        return passed;
    }

    int step() {
        Set<String> solid = solidPieces();
        String next = solid.contains(probe) ? linkedAfter(probe, solid) : null;
        if (next == null) {
            return -1;
        }
        probe = next;
        return next.charAt(k - 1) - '0';
    }

    int solid() {
        Set<Set<String>> pairs = new HashSet<>();
        for (String piece : solidPieces()) {
            pairs.add(Set.of(piece, Rows.mirror(piece)));
        }
        return pairs.size();
    }

    int chains() {
        Set<Set<Set<String>>> pairs = new HashSet<>();
        for (Set<String> chain : allChains()) {
            pairs.add(new HashSet<>(List.of(chain, mirrors(chain))));
        }
        return pairs.size();
    }

    int longest() {
        int greatest = 0;
        for (Set<String> chain : allChains()) {
            greatest = Math.max(greatest, chain.size());
        }
        return greatest;
    }

    /** The solid pieces in order, for tests that want a probe that is solid. */
    List<String> solidInOrder() {
        return new ArrayList<>(solidPieces());
    }

    int rings() {
        Set<String> solid = solidPieces();
        int found = 0;
        for (Set<String> chain : allChains()) {
            found += isRing(chain, solid) ? 1 : 0;
        }
        return found;
    }

    private static Set<String> mirrors(Set<String> chain) {
        Set<String> found = new HashSet<>();
        for (String piece : chain) {
            found.add(Rows.mirror(piece));
        }
        return found;
    }

    private Map<String, Integer> counts() {
        Map<String, Integer> counts = new HashMap<>();
        for (StringBuilder read : reads) {
            for (int start = 0; start + k <= read.length(); start++) {
                String piece = read.substring(start, start + k);
                counts.merge(piece, 1, Integer::sum);
                counts.merge(Rows.mirror(piece), 1, Integer::sum);
            }
        }
        return counts;
    }

    private Set<String> solidPieces() {
        Set<String> solid = new TreeSet<>();
        counts().forEach((piece, count) -> {
            if (count >= floor) {
                solid.add(piece);
            }
        });
        return solid;
    }

    private static boolean follows(String y, String x) {
        return x.substring(1).equals(y.substring(0, y.length() - 1));
    }

    private static boolean linked(String x, String y, Set<String> solid) {
        int followers = 0;
        int leaders = 0;
        for (String piece : solid) {
            followers += follows(piece, x) ? 1 : 0;
            leaders += follows(y, piece) ? 1 : 0;
        }
        return follows(y, x) && followers == 1 && leaders == 1 && !y.equals(x) && !y.equals(Rows.mirror(x));
    }

    private static String linkedAfter(String x, Set<String> solid) {
        for (String y : solid) {
            if (follows(y, x) && linked(x, y, solid)) {
                return y;
            }
        }
        return null;
    }

    private static String linkedBefore(String y, Set<String> solid) {
        for (String x : solid) {
            if (follows(y, x) && linked(x, y, solid)) {
                return x;
            }
        }
        return null;
    }

    private static Set<String> chainOf(String piece, Set<String> solid) {
        Set<String> chain = new HashSet<>();
        Deque<String> open = new ArrayDeque<>();
        open.add(piece);
        while (!open.isEmpty()) {
            String at = open.remove();
            if (chain.add(at)) {
                String next = linkedAfter(at, solid);
                String previous = linkedBefore(at, solid);
                if (next != null) {
                    open.add(next);
                }
                if (previous != null) {
                    open.add(previous);
                }
            }
        }
        return chain;
    }

    private static boolean isRing(Set<String> chain, Set<String> solid) {
        for (String piece : chain) {
            if (linkedAfter(piece, solid) == null || linkedBefore(piece, solid) == null) {
                return false;
            }
        }
        return true;
    }

    private Set<Set<String>> allChains() {
        Set<String> solid = solidPieces();
        Set<Set<String>> chains = new HashSet<>();
        Set<String> placed = new HashSet<>();
        for (String piece : solid) {
            if (!placed.contains(piece)) {
                Set<String> chain = chainOf(piece, solid);
                placed.addAll(chain);
                chains.add(chain);
            }
        }
        return chains;
    }
}
