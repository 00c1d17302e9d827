import java.util.ArrayList;
import java.util.List;
import java.util.Random;
import java.util.function.BiConsumer;
import java.util.function.Supplier;
import java.util.function.ToIntFunction;

/**
 * The boundary cases of promise 14, and rule 7 of LANGUAGE.md. What a refused call leaves behind
 * is seen by a twin: an object with the same calls but the refused ones, which must answer all
 * later calls alike.
 */
public final class RefusalBoundaryTest {
    private static final int REPEATED = 3;
    private static final int ROUTE_PART = 64;
    private static final String ROW = "0113020031";
    private static final String RING = "00100100";
    private static final String OPEN = "2100";

    public static void main(String[] args) {
        Check.test("Promise 14, read refused at 96 letters, in an open and in a new read, changes nothing",
            RefusalBoundaryTest::promise14Read);
        Check.test("Promise 14, count refused with 0 to k - 1 letters changes nothing",
            () -> promise14ShortProbe(UnitigBuilder::count));
        Check.test("Promise 14, chain refused with 0 to k - 1 letters changes nothing",
            () -> promise14ShortProbe(UnitigBuilder::chain));
        Check.test("Promise 14, before refused with 0 to k - 1 letters changes nothing",
            () -> promise14ShortProbe(UnitigBuilder::before));
        Check.test("Promise 14, step refused with 0 to k - 1 letters changes nothing",
            () -> promise14ShortProbe(UnitigBuilder::step));
        Check.test("Promise 14, chain refused at a probe that is not solid changes nothing",
            () -> promise14NotSolid(UnitigBuilder::chain));
        Check.test("Promise 14, before refused at a probe that is not solid changes nothing",
            () -> promise14NotSolid(UnitigBuilder::before));
        Check.test("Promise 14, step refused at a probe that is not solid changes nothing",
            () -> promise14NotSolid(UnitigBuilder::step));
        Check.test("Promise 14, before with -2 in a ring changes nothing", RefusalBoundaryTest::promise14BeforeInARing);
        Check.test("Promise 14, step refused with none linked after changes nothing",
            RefusalBoundaryTest::promise14StepAtTheEnd);
        Check.test("Promises 7 to 9 and 11 to 13, a question that is answered changes nothing",
            RefusalBoundaryTest::questionsChangeNothing);
        Check.test("Rule 7, any arguments of the constructor", RefusalBoundaryTest::rule7Constructor);
        Check.test("Rule 7, any arguments in any state, past 512 calls too", RefusalBoundaryTest::rule7AnyCalls);
        Check.finish();
    }

    private static void promise14Read() {
        for (int k : Check.SIZES) {
            for (boolean ended : new boolean[] {false, true}) {
                Supplier<UnitigBuilder> make = () -> {
                    UnitigBuilder builder = new UnitigBuilder(k, 2);
                    Check.read(builder, "0011302".repeat(13) + "01010");
                    if (ended) {
                        builder.endRead();
                    }
                    Check.probe(builder, "00113".substring(0, k));
                    return builder;
                };
                for (int letter : new int[] {0, 1, 2, 3, -1, Integer.MAX_VALUE}) {
                    dueUnchanged(k, make, "0011302".substring(k), builder -> builder.read(letter), -1);
                }
            }
        }
    }

    private static void promise14ShortProbe(ToIntFunction<UnitigBuilder> call) {
        for (int k : Check.SIZES) {
            for (int letters = 0; letters < k; letters++) {
                String probe = ROW.substring(0, letters);
                dueUnchanged(k, () -> withOpenRead(k, 2, probe), ROW.substring(letters), call, -1);
            }
        }
    }

    private static void promise14NotSolid(ToIntFunction<UnitigBuilder> call) {
        for (int k : Check.SIZES) {
            String neverSeen = "3" + ROW.substring(0, k - 1);
            dueUnchanged(k, () -> withOpenRead(k, 2, neverSeen), ROW.substring(k - 1), call, -1);
            String seenTooSeldom = ROW.substring(0, k);
            dueUnchanged(k, () -> withOpenRead(k, 5, seenTooSeldom), ROW.substring(k), call, -1);
        }
    }

    private static void promise14BeforeInARing() {
        for (int k : Check.SIZES) {
            dueUnchanged(k, () -> withRing(k), RING.substring(k), UnitigBuilder::before, -2);
        }
    }

    private static void promise14StepAtTheEnd() {
        for (int k : Check.SIZES) {
            String last = ROW.substring(ROW.length() - k);
            dueUnchanged(k, () -> withOpenRead(k, 1, last), "0", UnitigBuilder::step, -1);
        }
    }

    private static void questionsChangeNothing() {
        List<ToIntFunction<UnitigBuilder>> questions = List.of(UnitigBuilder::count, UnitigBuilder::chain,
            UnitigBuilder::before, UnitigBuilder::solid, UnitigBuilder::chains, UnitigBuilder::longest);
        for (int k : Check.SIZES) {
            for (ToIntFunction<UnitigBuilder> question : questions) {
                Supplier<UnitigBuilder> row = () -> withOpenRead(k, 2, ROW.substring(0, k));
                dueUnchanged(k, row, ROW.substring(k), question, question.applyAsInt(row.get()));
                Supplier<UnitigBuilder> ring = () -> withRing(k);
                dueUnchanged(k, ring, RING.substring(k), question, question.applyAsInt(ring.get()));
            }
        }
    }

    /** Two pieces follow the end of the row; the last read is left open, a letter short of a new piece. */
    private static UnitigBuilder withOpenRead(int k, int floor, String probe) {
        UnitigBuilder builder = Check.withReads(k, floor, ROW, ROW, "1011", "220220", "00310", "00312");
        Check.read(builder, OPEN.substring(5 - k));
        Check.probe(builder, probe);
        return builder;
    }

    private static UnitigBuilder withRing(int k) {
        UnitigBuilder builder = Check.withReads(k, 1, RING);
        Check.read(builder, OPEN.substring(5 - k));
        Check.probe(builder, RING.substring(0, k));
        return builder;
    }

    /** The further letters are those that stand after the probe in a read, so that its own letters are seen. */
    private static void dueUnchanged(int k, Supplier<UnitigBuilder> make, String further,
            ToIntFunction<UnitigBuilder> call, int due) {
        String route = Rows.everyPiece(k);
        for (int from = 0; from < route.length(); from += ROUTE_PART) {
            String part = route.substring(from, Math.min(route.length(), from + ROUTE_PART + k - 1));
            dueAlike(make, call, due, (builder, seen) -> lookAtReads(builder, seen, k, part));
        }
        dueAlike(make, call, due, (builder, seen) -> lookAtProbe(builder, seen, k, further));
        dueAlike(make, call, due, RefusalBoundaryTest::lookAtChain);
        dueAlike(make, call, due, RefusalBoundaryTest::lookAtWhole);
    }

    /** Each look has a pair of objects to itself: what one look changes can't hide what the call did. */
    private static void dueAlike(Supplier<UnitigBuilder> make, ToIntFunction<UnitigBuilder> call, int due,
            BiConsumer<UnitigBuilder, List<Integer>> look) {
        UnitigBuilder called = make.get();
        for (int time = 0; time < REPEATED; time++) {
            Check.due("the call", call.applyAsInt(called), due);
        }
        List<Integer> seen = new ArrayList<>();
        look.accept(called, seen);
        List<Integer> twin = new ArrayList<>();
        look.accept(make.get(), twin);
        Check.holds("after the calls " + seen + ", without them " + twin, seen.equals(twin));
    }

    private static void lookAtReads(UnitigBuilder builder, List<Integer> seen, int k, String route) {
        for (char letter : "0302".toCharArray()) {
            seen.add(builder.read(letter - '0'));
        }
        lookAtProbe(builder, seen, k, route);
    }

    private static void lookAtProbe(UnitigBuilder builder, List<Integer> seen, int k, String letters) {
        for (char letter : letters.toCharArray()) {
            int length = builder.probe(letter - '0');
            seen.add(length == k ? builder.count() : length - k);
        }
    }

    private static void lookAtChain(UnitigBuilder builder, List<Integer> seen) {
        seen.add(builder.before());
        seen.add(builder.chain());
        seen.add(builder.count());
        seen.add(builder.step());
        seen.add(builder.before());
    }

    private static void lookAtWhole(UnitigBuilder builder, List<Integer> seen) {
        seen.add(builder.solid());
        seen.add(builder.chains());
        seen.add(builder.longest());
    }

    private static void rule7Constructor() {
        for (int size : Check.WILD) {
            for (int floor : Check.WILD) {
                UnitigBuilder builder = new UnitigBuilder(size, floor);
                Check.dueWhole(builder, 0, 0, 0);
            }
        }
    }

    private static void rule7AnyCalls() {
        String[] texts = {"", "0".repeat(96), Rows.everyPiece(3), Rows.LONGEST_ROW_OF_3, Rows.LARGEST_RING_OF_3,
            Rows.LONGEST_ROW_OF_5, Rows.LARGEST_RING_OF_5};
        for (String text : texts) {
            for (int run = 0; run < 12; run++) {
                Random random = new Random(run);
                UnitigBuilder builder = new UnitigBuilder(wild(random), wild(random));
                Check.read(builder, text);
                Check.probe(builder, text);
                for (int call = 0; call < 1000; call++) {
                    callAny(builder, random);
                }
            }
        }
    }

    private static int wild(Random random) {
        return random.nextBoolean() ? random.nextInt() : Check.WILD[random.nextInt(Check.WILD.length)];
    }

    /** What is answered is free past 512 calls; that there is an answer is not. */
    private static void callAny(UnitigBuilder builder, Random random) {
        switch (random.nextInt(12)) {
            case 0 -> builder.read(wild(random));
            case 1 -> builder.endRead();
            case 2 -> builder.floor(wild(random));
            case 3 -> builder.probe(wild(random));
            case 4 -> builder.turn();
            case 5 -> builder.count();
            case 6 -> builder.chain();
            case 7 -> builder.before();
            case 8 -> builder.step();
            case 9 -> builder.solid();
            case 10 -> builder.chains();
            default -> builder.longest();
        }
    }
}
