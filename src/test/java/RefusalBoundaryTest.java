import java.util.ArrayList;
import java.util.List;
import java.util.Random;
import java.util.function.Consumer;
import java.util.function.Supplier;
import java.util.function.ToIntFunction;

/**
 * The boundary cases of promise 14, and rule 7 of LANGUAGE.md. What a refused call leaves behind
 * is seen by a twin: an object with the same calls but the refused ones, which must answer all
 * later calls alike.
 */
public final class RefusalBoundaryTest {
    private static final int REPEATED = 3;
    private static final int ROUTE_PART = 64;

    public static void main(String[] args) {
        Check.test("Promise 14, read refused at 96 letters, in an open and in a new read, changes nothing",
            RefusalBoundaryTest::promise14Read);
        Check.test("Promise 14, count refused with 0 to k - 1 letters changes nothing",
            () -> promise14ShortProbe(UnitigBuilder::count));
        Check.test("Promise 14, chain refused with 0 to k - 1 letters changes nothing",
            () -> promise14ShortProbe(UnitigBuilder::chain));
        Check.test("Promise 14, before refused with 0 to k - 1 letters changes nothing",
            () -> promise14ShortProbe(UnitigBuilder::before));
        Check.test("Promise 14, step refused with 0 to k - 1 letters changes nothing",
            () -> promise14ShortProbe(UnitigBuilder::step));
        Check.test("Promise 14, chain refused at a probe that is not solid changes nothing",
            () -> promise14NotSolid(UnitigBuilder::chain));
        Check.test("Promise 14, before refused at a probe that is not solid changes nothing",
            () -> promise14NotSolid(UnitigBuilder::before));
        Check.test("Promise 14, step refused at a probe that is not solid changes nothing",
            () -> promise14NotSolid(UnitigBuilder::step));
        Check.test("Promise 14, before with -2 in a ring changes nothing", RefusalBoundaryTest::promise14BeforeInARing);
        Check.test("Promise 14, step refused with none linked after changes nothing",
            RefusalBoundaryTest::promise14StepAtTheEnd);
        Check.test("Promises 7 to 9 and 11 to 13, a question that is answered changes nothing",
            RefusalBoundaryTest::questionsChangeNothing);
        Check.test("Rule 7, any arguments of the constructor", RefusalBoundaryTest::rule7Constructor);
        Check.test("Rule 7, any arguments in any state, past 512 calls too", RefusalBoundaryTest::rule7AnyCalls);
        Check.finish();
    }

    private static void promise14Read() {
        for (int k : Check.SIZES) {
            for (boolean ended : new boolean[] {false, true}) {
                Supplier<UnitigBuilder> make = () -> {
                    UnitigBuilder builder = new UnitigBuilder(k, 1);
                    Check.read(builder, "0011302".repeat(13) + "01010");
                    if (ended) {
                        builder.endRead();
                    }
                    Check.probe(builder, "00113".substring(0, k));
                    return builder;
                };
                for (int letter : new int[] {0, 1, 2, 3, -1, Integer.MAX_VALUE}) {
                    dueUnchanged(k, make, builder -> builder.read(letter), -1);
                }
            }
        }
    }

    private static void promise14ShortProbe(ToIntFunction<UnitigBuilder> call) {
        for (int k : Check.SIZES) {
            for (int letters = 0; letters < k; letters++) {
                String probe = "01130".substring(0, letters);
                dueUnchanged(k, () -> withOpenRead(k, 1, probe), call, -1);
            }
        }
    }

    private static void promise14NotSolid(ToIntFunction<UnitigBuilder> call) {
        for (int k : Check.SIZES) {
            dueUnchanged(k, () -> withOpenRead(k, 1, "33333".substring(0, k)), call, -1);
            dueUnchanged(k, () -> withOpenRead(k, 5, "01130".substring(0, k)), call, -1);
        }
    }

    private static void promise14BeforeInARing() {
        dueUnchanged(3, () -> withRing(3), UnitigBuilder::before, -2);
        dueUnchanged(5, () -> withRing(5), UnitigBuilder::before, -2);
    }

    private static void promise14StepAtTheEnd() {
        for (int k : Check.SIZES) {
            dueUnchanged(k, () -> withOpenRead(k, 1, "20031".substring(5 - k)), UnitigBuilder::step, -1);
        }
    }

    private static void questionsChangeNothing() {
        List<ToIntFunction<UnitigBuilder>> questions = List.of(UnitigBuilder::count, UnitigBuilder::chain,
            UnitigBuilder::before, UnitigBuilder::solid, UnitigBuilder::chains, UnitigBuilder::longest);
        for (int k : Check.SIZES) {
            for (ToIntFunction<UnitigBuilder> question : questions) {
                Supplier<UnitigBuilder> row = () -> withOpenRead(k, 1, "01130".substring(0, k));
                dueUnchanged(k, row, question, question.applyAsInt(row.get()));
                Supplier<UnitigBuilder> ring = () -> withRing(k);
                dueUnchanged(k, ring, question, question.applyAsInt(ring.get()));
            }
        }
    }

    /** The last read is left open, one letter before a piece that no other read has. */
    private static UnitigBuilder withOpenRead(int k, int floor, String probe) {
        UnitigBuilder builder = Check.withReads(k, floor, "0113020031", "0113020031", "1011", "220220");
        Check.read(builder, "2100".substring(5 - k));
        Check.probe(builder, probe);
        return builder;
    }

    private static UnitigBuilder withRing(int k) {
        UnitigBuilder builder = Check.withReads(k, 1, "00100100");
        Check.read(builder, "2100".substring(5 - k));
        Check.probe(builder, "00100".substring(0, k));
        return builder;
    }

    private static void dueUnchanged(int k, Supplier<UnitigBuilder> make, ToIntFunction<UnitigBuilder> call, int due) {
        Consumer<UnitigBuilder> calls = builder -> {
            for (int time = 0; time < REPEATED; time++) {
                Check.due("the call", call.applyAsInt(builder), due);
            }
        };
        String route = Rows.everyPiece(k);
        for (int from = 0; from < route.length(); from += ROUTE_PART) {
            String part = route.substring(from, Math.min(route.length(), from + ROUTE_PART + k - 1));
            UnitigBuilder called = make.get();
            calls.accept(called);
            List<Integer> seen = look(called, part);
            List<Integer> twin = look(make.get(), part);
            Check.holds("after the calls " + seen + ", without them " + twin, seen.equals(twin));
        }
    }

    /** All that can be seen of an object: its whole, its probe, its open read, its counts and its floor. */
    private static List<Integer> look(UnitigBuilder builder, String route) {
        List<Integer> seen = new ArrayList<>();
        lookAtWhole(builder, seen);
        seen.add(builder.count());
        seen.add(builder.chain());
        seen.add(builder.before());
        for (char letter : "0302".toCharArray()) {
            seen.add(builder.probe(letter - '0'));
            seen.add(builder.count());
            seen.add(builder.read(letter - '0'));
            lookAtWhole(builder, seen);
        }
        for (char letter : route.toCharArray()) {
            builder.probe(letter - '0');
            seen.add(builder.count());
            seen.add(builder.chain());
        }
        builder.floor(1);
        lookAtWhole(builder, seen);
        return seen;
    }

    private static void lookAtWhole(UnitigBuilder builder, List<Integer> seen) {
        seen.add(builder.solid());
        seen.add(builder.chains());
        seen.add(builder.longest());
    }

    private static void rule7Constructor() {
        for (int size : Check.WILD) {
            for (int floor : Check.WILD) {
                UnitigBuilder builder = new UnitigBuilder(size, floor);
                Check.dueWhole(builder, 0, 0, 0);
            }
        }
    }

    private static void rule7AnyCalls() {
        for (int run = 0; run < 40; run++) {
            Random random = new Random(run);
            UnitigBuilder builder = new UnitigBuilder(wild(random), wild(random));
            for (int call = 0; call < 2000; call++) {
                callAny(builder, random);
            }
        }
    }

    private static int wild(Random random) {
        return random.nextBoolean() ? random.nextInt() : Check.WILD[random.nextInt(Check.WILD.length)];
    }

    /** What is answered is free past 512 calls; that there is an answer is not. */
    private static void callAny(UnitigBuilder builder, Random random) {
        switch (random.nextInt(12)) {
            case 0 -> builder.read(wild(random));
            case 1 -> builder.endRead();
            case 2 -> builder.floor(wild(random));
            case 3 -> builder.probe(wild(random));
            case 4 -> builder.turn();
            case 5 -> builder.count();
            case 6 -> builder.chain();
            case 7 -> builder.before();
            case 8 -> builder.step();
            case 9 -> builder.solid();
            case 10 -> builder.chains();
            default -> builder.longest();
        }
    }
}
