/** What the tests share: named cases, comparing answers, and feeding rows of letters written as digits. */
final class Check {
    /** Both lengths that a piece can have. */
    static final int[] SIZES = {3, 5};
    /** Arguments about every boundary of the document, and far outside. */
    static final int[] WILD = {Integer.MIN_VALUE, Integer.MIN_VALUE + 1, -1000, -5, -4, -3, -2, -1,
        0, 1, 2, 3, 4, 5, 6, 7, 8, 9, 10, 11, 255, 1000, Integer.MAX_VALUE - 1, Integer.MAX_VALUE};
    private static final long MOST_MILLIS = 120_000;

    private static int passed = 0;
    private static int failed = 0;
    private static int answers = 0;
    private static int wrong = 0;

    private Check() {
    }

    /** Runs one named case; a call that throws or does not end fails it just as a wrong answer does. */
    static void test(String name, Runnable body) {
        int wrongBefore = wrong;
        Thread runner = new Thread(body);
        runner.setDaemon(true);
        runner.setUncaughtExceptionHandler((thread, thrown) -> holds("threw " + thrown, false));
        runner.start();
        try {
            runner.join(MOST_MILLIS);
        } catch (InterruptedException stopped) {
            holds("was interrupted", false);
        }
        holds("did not end", !runner.isAlive());
        if (wrong == wrongBefore) {
            passed++;
            System.out.println("ok      " + name);
        } else {
            failed++;
            System.out.println("FAILED  " + name);
        }
    }

    static synchronized void due(String what, long got, long want) {
        answers++;
        if (got != want) {
            wrong++;
            System.out.println("  " + what + ": answered " + got + ", due is " + want);
        }
    }

    static void holds(String what, boolean held) {
        due(what, held ? 1 : 0, 1);
    }

    static void dueCount(UnitigBuilder builder, String piece, int count) {
        probe(builder, piece);
        due("count of " + piece, builder.count(), count);
    }

    static void duePlace(UnitigBuilder builder, String piece, int chain, int before) {
        probe(builder, piece);
        due("chain of " + piece, builder.chain(), chain);
        due("before " + piece, builder.before(), before);
    }

    static void dueWhole(UnitigBuilder builder, int solid, int chains, int longest) {
        due("solid", builder.solid(), solid);
        due("chains", builder.chains(), chains);
        due("longest", builder.longest(), longest);
    }

    static void read(UnitigBuilder builder, String letters) {
        for (char letter : letters.toCharArray()) {
            builder.read(letter - '0');
        }
    }

    static void readWhole(UnitigBuilder builder, String letters) {
        read(builder, letters);
        builder.endRead();
    }

    static void probe(UnitigBuilder builder, String letters) {
        for (char letter : letters.toCharArray()) {
            builder.probe(letter - '0');
        }
    }

    static UnitigBuilder withReads(int size, int floor, String... reads) {
        UnitigBuilder builder = new UnitigBuilder(size, floor);
        for (String letters : reads) {
            readWhole(builder, letters);
        }
        return builder;
    }

    /** The last call of every test's main. */
    static void finish() {
        System.out.println(passed + " passed, " + failed + " failed (" + answers + " answers compared)");
        if (wrong != 0 || passed == 0) {
            System.exit(1);
        }
    }
}
