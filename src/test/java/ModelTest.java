import java.util.List;
import java.util.Random;

/** Long runs of calls, the same each time, in which the class and the plain model must agree. */
public final class ModelTest {
    private static final int RUNS = 300;
    private static final int CALLS = 512;
    private static final int MOST_LETTERS_OF_A_PIECE = 5;
    private static int ringsSeen = 0;
    private static int longestSeen = 0;

    private final Random random;
    private final String name;
    private final UnitigBuilder builder;
    private final PlainModel model;
    /** A row that is read over and over, so that counts grow and rings close. */
    private final int[] refrain;
    private int refrainPlace = 0;
    private int call = 0;

    private ModelTest(int run) {
        random = new Random(run);
        int size = run % 2 == 0 ? 3 : 5;
        int floor = random.nextInt(4) == 0 ? random.nextInt(13) - 1 : 1;
        name = "run " + run + ": size " + size + ", floor " + floor;
        builder = new UnitigBuilder(size, floor);
        model = new PlainModel(size, floor);
        refrain = new int[2 + random.nextInt(random.nextBoolean() ? 8 : 60)];
        for (int place = 0; place < refrain.length; place++) {
            refrain[place] = random.nextInt(run % 3 == 0 ? 2 : 4);
        }
    }

    public static void main(String[] args) {
        Check.test("Promises 1 to 14, runs of 512 calls against the plain model", ModelTest::compareRuns);
        Check.test("The runs had rings and long chains", ModelTest::runsWereWideEnough);
        Check.finish();
    }

    private static void compareRuns() {
        for (int run = 0; run < RUNS; run++) {
            ModelTest test = new ModelTest(run);
            while (test.call < CALLS) {
                test.makeCall();
            }
        }
    }

    private static void runsWereWideEnough() {
        Check.holds("rings", ringsSeen > 100);
        Check.holds("long chains", longestSeen > 15);
    }

    private void makeCall() {
        int kind = random.nextInt(100);
        if (kind < 30) {
            readSome();
        } else if (kind < 32) {
            call++;
            builder.endRead();
            model.endRead();
        } else if (kind < 34) {
            int floor = random.nextInt(3) == 0 ? random.nextInt(14) - 2 : 1;
            call++;
            builder.floor(floor);
            model.floor(floor);
        } else if (kind < 44) {
            probe(random.nextInt());
        } else if (kind < 50) {
            probeSolidPiece();
        } else if (kind < 56) {
            call++;
            builder.turn();
            model.turn();
        } else {
            ask(kind);
        }
    }

    private void ask(int kind) {
        switch (kind % 7) {
            case 0 -> due("count", builder.count(), model.count());
            case 1 -> due("chain", builder.chain(), model.chain());
            case 2 -> due("before", builder.before(), model.before());
            case 3 -> due("step", builder.step(), model.step());
            case 4 -> due("solid", builder.solid(), model.solid());
            case 5 -> due("chains", builder.chains(), model.chains());
            default -> {
                longestSeen = Math.max(longestSeen, model.longest());
                ringsSeen += model.rings();
                due("longest", builder.longest(), model.longest());
            }
        }
    }

    private void readSome() {
        boolean stray = random.nextInt(40) == 0;
        int letter = stray ? random.nextInt() : refrain[refrainPlace];
        refrainPlace = (refrainPlace + 1) % refrain.length;
        due("read(" + letter + ")", builder.read(letter), model.read(letter));
    }

    private void probeSolidPiece() {
        List<String> solid = model.solidInOrder();
        // Past call 512 the answers are free, so a piece must still fit in.
        if (!solid.isEmpty() && call + MOST_LETTERS_OF_A_PIECE <= CALLS) {
            for (char letter : solid.get(random.nextInt(solid.size())).toCharArray()) {
                probe(letter - '0' + 4 * random.nextInt(3));
            }
        }
    }

    private void probe(int letter) {
        due("probe(" + letter + ")", builder.probe(letter), model.probe(letter));
    }

    private void due(String what, int got, int want) {
        call++;
        Check.due(name + ", call " + call + ", " + what, got, want);
    }
}
