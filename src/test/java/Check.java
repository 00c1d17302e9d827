/** What the tests share: comparing answers, and feeding rows of letters written as digits. */
final class Check {
    private static int right = 0;
    private static int wrong = 0;

    private Check() {
    }

    static void due(String what, long got, long want) {
        if (got == want) {
            right++;
        } else {
            wrong++;
            System.out.println(what + ": answered " + got + ", due is " + want);
        }
    }

    static void holds(String what, boolean held) {
        due(what, held ? 1 : 0, 1);
    }

    static void read(UnitigBuilder builder, String letters) {
        for (char letter : letters.toCharArray()) {
            builder.read(letter - '0');
        }
    }

    static void readWhole(UnitigBuilder builder, String letters) {
        read(builder, letters);
        builder.endRead();
    }

    static void probe(UnitigBuilder builder, String letters) {
        for (char letter : letters.toCharArray()) {
            builder.probe(letter - '0');
        }
    }

    static UnitigBuilder withReads(int size, int floor, String... reads) {
        UnitigBuilder builder = new UnitigBuilder(size, floor);
        for (String letters : reads) {
            readWhole(builder, letters);
        }
        return builder;
    }

    /** The last call of every test's main. */
    static void finish() {
        System.out.println(right + " passed, " + wrong + " failed");
        if (wrong != 0) {
            System.exit(1);
        }
    }
}
