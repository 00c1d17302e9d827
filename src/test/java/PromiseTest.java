/** One method or more for each promise of the document, with answers worked out by hand. */
public final class PromiseTest {
    private static final int[] WILD = {Integer.MIN_VALUE, Integer.MIN_VALUE + 1, -1000, -5, -4, -3, -2, -1,
        0, 1, 2, 3, 4, 5, 6, 7, 8, 255, 1000, Integer.MAX_VALUE - 1, Integer.MAX_VALUE};

    public static void main(String[] args) {
        promise1Size();
        promise1Floor();
        promise1Empty();
        promise2Answers();
        promise2Letters();
        promise2Full();
        promise3();
        promise4();
        promise5();
        promise6();
        promise7();
        promise7Short();
        promise8Refusals();
        promise8ShortProbes();
        promise8Links();
        promise8NoLinkToItselfOrMirror();
        promise8LongPieces();
        promise9();
        promise9Ring();
        promise10();
        promise10Ring();
        promise11();
        promise12();
        promise13();
        promise14();
        objectsAreApart();
        Check.finish();
    }

    private static void promise1Size() {
        for (int size : new int[] {Integer.MIN_VALUE, -3, 0, 1, 2, 3}) {
            dueProbeLength(size, 3);
        }
        for (int size : new int[] {4, 5, 6, 7, 100, Integer.MAX_VALUE}) {
            dueProbeLength(size, 5);
        }
    }

    private static void dueProbeLength(int size, int k) {
        UnitigBuilder builder = new UnitigBuilder(size, 1);
        for (int call = 1; call <= 8; call++) {
            Check.due("1: size " + size + ", probe call " + call, builder.probe(0), Math.min(call, k));
        }
        Check.read(builder, "0000000");
        Check.due("1: size " + size + ", count of pieces of length " + k, builder.count(), 7 - k + 1);
    }

    private static void promise1Floor() {
        for (int floor : WILD) {
            int real = Math.max(1, Math.min(9, floor));
            dueFloor("1: floor " + floor, new UnitigBuilder(3, floor), real);
        }
    }

    /** Reads 000 once more at a time: it is solid from the real floor on. */
    private static void dueFloor(String what, UnitigBuilder builder, int real) {
        Check.probe(builder, "000");
        Check.read(builder, "00");
        for (int seen = 0; seen <= 10; seen++) {
            Check.due(what + ", solid at count " + seen, builder.solid(), seen >= real ? 1 : 0);
            Check.due(what + ", chain at count " + seen, builder.chain(), seen >= real ? 1 : -1);
            builder.read(0);
        }
    }

    private static void promise1Empty() {
        for (int size : new int[] {3, 5}) {
            UnitigBuilder builder = new UnitigBuilder(size, 1);
            Check.due("1: new, solid", builder.solid(), 0);
            Check.due("1: new, chains", builder.chains(), 0);
            Check.due("1: new, longest", builder.longest(), 0);
            Check.due("1: new, count", builder.count(), -1);
            Check.due("1: new, chain", builder.chain(), -1);
            Check.due("1: new, before", builder.before(), -1);
            Check.due("1: new, step", builder.step(), -1);
            Check.due("1: new, probe", builder.probe(0), 1);
            Check.due("1: new, read", builder.read(0), 1);
        }
    }

    private static void promise2Answers() {
        UnitigBuilder builder = new UnitigBuilder(5, 1);
        for (int call = 1; call <= 96; call++) {
            Check.due("2: read call " + call, builder.read(call), call);
            if (call % 7 == 0) {
                builder.endRead();
            }
        }
        for (int call = 97; call <= 120; call++) {
            Check.due("2: read call " + call, builder.read(call), -1);
            builder.endRead();
        }
    }

    private static void promise2Letters() {
        for (int letter : WILD) {
            UnitigBuilder builder = new UnitigBuilder(3, 1);
            builder.read(0);
            builder.read(0);
            builder.read(letter);
            Check.probe(builder, "00" + (letter & 3));
            Check.due("2: letter " + letter, builder.count(), 1);
            Check.due("2: letter " + letter + ", solid", builder.solid(), 1);
        }
    }

    private static void promise2Full() {
        UnitigBuilder builder = new UnitigBuilder(3, 1);
        Check.read(builder, "0".repeat(95));
        Check.probe(builder, "000");
        Check.due("2: count at 95 letters", builder.count(), 93);
        Check.due("2: letter 96", builder.read(0), 96);
        Check.due("2: count at 96 letters", builder.count(), 94);
        Check.due("2: letter 97", builder.read(0), -1);
        Check.due("2: count after a refused letter", builder.count(), 94);
        Check.due("2: another refused letter", builder.read(1), -1);
        Check.due("2: solid after refused letters", builder.solid(), 1);
        builder.endRead();
        Check.due("2: refused in a new read too", builder.read(0), -1);
        Check.due("2: refused in a new read too", builder.read(0), -1);
        Check.due("2: refused in a new read too", builder.read(0), -1);
        Check.due("2: count is still the same", builder.count(), 94);
    }

    private static void promise3() {
        UnitigBuilder builder = new UnitigBuilder(3, 1);
        builder.endRead();
        Check.readWhole(builder, "00");
        Check.readWhole(builder, "00");
        Check.readWhole(builder, "0");
        Check.due("3: reads shorter than a piece", builder.solid(), 0);
        Check.readWhole(builder, "001");
        Check.readWhole(builder, "203");
        Check.due("3: no piece over a read's end", builder.solid(), 2);
        dueCount("3: over the end", builder, "012", 0);
        dueCount("3: over the end", builder, "120", 0);
        dueCount("3: the first read", builder, "001", 1);
        dueCount("3: the second read", builder, "203", 1);
        builder.endRead();
        builder.endRead();
        Check.due("3: letters taken after ended reads", builder.read(0), 12);
        Check.due("3: the probe is kept", builder.count(), 1);

        UnitigBuilder zeros = new UnitigBuilder(3, 1);
        Check.readWhole(zeros, "123");
        Check.read(zeros, "000");
        dueCount("3: a new read is a read", zeros, "000", 1);
        dueCount("3: nothing before it", zeros, "300", 0);
    }

    private static void promise4() {
        for (int floor : WILD) {
            int real = Math.max(1, Math.min(9, floor));
            for (int first : new int[] {1, 5, 9}) {
                UnitigBuilder builder = new UnitigBuilder(3, first);
                builder.floor(floor);
                dueFloor("4: floor " + floor + " after " + first, builder, real);
            }
        }
        UnitigBuilder builder = Check.withReads(3, 1, "000", "000", "010");
        Check.probe(builder, "010");
        builder.floor(2);
        Check.due("4: solid at 2", builder.solid(), 1);
        Check.due("4: chain of what is no longer solid", builder.chain(), -1);
        Check.due("4: its count is kept", builder.count(), 1);
        builder.floor(1);
        Check.due("4: solid at 1 again", builder.solid(), 2);
        Check.due("4: chain of what is solid again", builder.chain(), 1);
    }

    private static void promise5() {
        UnitigBuilder builder = Check.withReads(3, 1, "012031");
        Check.due("5: one letter", builder.probe(0), 1);
        Check.due("5: two letters", builder.probe(1), 2);
        Check.due("5: three letters", builder.probe(2), 3);
        Check.due("5: 012", builder.count(), 1);
        Check.due("5: still three", builder.probe(0), 3);
        Check.due("5: 120", builder.count(), 1);
        Check.due("5: still three", builder.probe(0), 3);
        Check.due("5: 200 was not read", builder.count(), 0);
        Check.due("5: letters taken", builder.read(0), 7);
        for (int letter : WILD) {
            UnitigBuilder other = Check.withReads(5, 1, "0120" + (letter & 3));
            Check.probe(other, "0120");
            Check.due("5: five letters", other.probe(letter), 5);
            Check.due("5: letter " + letter, other.count(), 1);
        }
    }

    private static void promise6() {
        UnitigBuilder builder = Check.withReads(5, 1, "01203", "10001");
        builder.turn();
        Check.due("6: an empty probe stays empty", builder.probe(2), 1);
        builder.turn();
        Check.due("6: 1 after 2 was turned", builder.probe(0), 2);
        builder.turn();
        builder.turn();
        Check.due("6: three letters", builder.probe(0), 3);
        Check.due("6: four letters", builder.probe(0), 4);
        builder.turn();
        builder.turn();
        Check.due("6: turned while short, no count", builder.count(), -1);
        Check.due("6: five letters", builder.probe(1), 5);
        Check.due("6: 10001", builder.count(), 1);

        UnitigBuilder partial = Check.withReads(5, 1, "10123");
        Check.probe(partial, "32");
        partial.turn();
        Check.probe(partial, "123");
        Check.due("6: 32 turned is 10", partial.count(), 1);

        UnitigBuilder row = Check.withReads(3, 1, "0011");
        Check.probe(row, "001");
        Check.due("6: 001 steps to 011", row.step(), 1);
        row.turn();
        Check.due("6: 011 turned is 223, which steps to 233", row.step(), 3);
        Check.due("6: 233 is the last of its chain", row.before(), 1);
        row.turn();
        Check.due("6: turned back it is 001, the first", row.before(), 0);
    }

    private static void promise7() {
        UnitigBuilder builder = Check.withReads(3, 1, "0123", "0000", "333", "001");
        dueCount("7: a piece and its mirror in one read", builder, "012", 2);
        dueCount("7: the mirror has the same count", builder, "123", 2);
        dueCount("7: overlapping, and the mirror in another read", builder, "000", 3);
        dueCount("7: the mirror of that", builder, "333", 3);
        dueCount("7: once", builder, "001", 1);
        dueCount("7: its mirror", builder, "233", 1);
        dueCount("7: never seen", builder, "321", 0);
        dueCount("7: reversed is not the mirror", builder, "100", 0);
        dueCount("7: partners alone are not the mirror", builder, "332", 0);
        builder.floor(9);
        dueCount("7: not solid, counted all the same", builder, "012", 2);
        dueCount("7: not solid and never seen", builder, "321", 0);
        Check.probe(builder, "222");
        Check.read(builder, "222");
        Check.due("7: the open read counts", builder.count(), 1);
        Check.read(builder, "2");
        Check.due("7: the open read goes on", builder.count(), 2);
        Check.read(builder, "111");
        Check.due("7: with the mirror", builder.count(), 3);
    }

    private static void promise7Short() {
        UnitigBuilder builder = Check.withReads(5, 1, "0000000");
        for (int letters = 0; letters < 5; letters++) {
            Check.due("7: with " + letters + " letters", builder.count(), -1);
            builder.probe(0);
        }
        Check.due("7: with 5 letters", builder.count(), 3);
    }

    private static void promise8Refusals() {
        UnitigBuilder builder = Check.withReads(3, 2, "0010", "001");
        for (int letters = 0; letters < 3; letters++) {
            Check.due("8: chain with " + letters + " letters", builder.chain(), -1);
            Check.due("9: before with " + letters + " letters", builder.before(), -1);
            Check.due("10: step with " + letters + " letters", builder.step(), -1);
            builder.probe(letters / 2);
        }
        Check.due("8: 001 is solid", builder.chain(), 1);
        Check.probe(builder, "010");
        Check.due("8: 010 is seen, not solid", builder.chain(), -1);
        Check.due("9: 010 is seen, not solid", builder.before(), -1);
        Check.due("10: 010 is seen, not solid", builder.step(), -1);
        Check.probe(builder, "222");
        Check.due("8: 222 is not seen", builder.chain(), -1);
        Check.due("9: 222 is not seen", builder.before(), -1);
        Check.due("10: 222 is not seen", builder.step(), -1);
    }

    /** Each short probe is the end of a solid piece that has only 0 before it: it must not pass as that piece. */
    private static void promise8ShortProbes() {
        String[][] cases = {{"3", "000", "", "0", "00"}, {"3", "0010", "1", "01"}, {"5", "001011", "101", "0101"}};
        for (String[] texts : cases) {
            for (int at = 2; at < texts.length; at++) {
                UnitigBuilder builder = Check.withReads(Integer.parseInt(texts[0]), 1, texts[1]);
                Check.probe(builder, texts[at]);
                Check.due("7: count of the short probe " + texts[at], builder.count(), -1);
                Check.due("8: chain of the short probe " + texts[at], builder.chain(), -1);
                Check.due("9: before the short probe " + texts[at], builder.before(), -1);
                Check.due("10: step of the short probe " + texts[at], builder.step(), -1);
                Check.due("14: its length is kept", builder.probe(0), texts[at].length() + 1);
            }
        }
    }

    private static void promise8Links() {
        // 001, 011, 113 stand in a row; 110 is a second piece after 011.
        UnitigBuilder builder = Check.withReads(3, 1, "00113");
        duePlace("8: a row of three", builder, "001", 3, 0);
        duePlace("8: a row of three", builder, "011", 3, 1);
        duePlace("8: a row of three", builder, "113", 3, 2);
        duePlace("8: its mirror", builder, "022", 3, 0);
        duePlace("8: its mirror", builder, "223", 3, 1);
        duePlace("8: its mirror", builder, "233", 3, 2);
        Check.readWhole(builder, "110");
        duePlace("8: two pieces follow 011", builder, "001", 2, 0);
        duePlace("8: two pieces follow 011", builder, "011", 2, 1);
        duePlace("8: two pieces follow 011", builder, "113", 1, 0);
        duePlace("8: two pieces follow 011", builder, "110", 1, 0);
        builder.floor(2);
        Check.readWhole(builder, "00113");
        duePlace("8: 110 is not solid at floor 2", builder, "001", 3, 0);

        UnitigBuilder joined = Check.withReads(3, 1, "00113", "211");
        duePlace("8: 113 follows two", joined, "001", 2, 0);
        duePlace("8: 113 follows two", joined, "113", 1, 0);
        duePlace("8: 113 follows two", joined, "211", 1, 0);

        UnitigBuilder apart = Check.withReads(3, 1, "001", "011");
        duePlace("8: linked though from two reads", apart, "011", 2, 1);
    }

    private static void promise8NoLinkToItselfOrMirror() {
        UnitigBuilder same = Check.withReads(3, 1, "000");
        duePlace("8: 000 follows itself alone", same, "000", 1, 0);
        Check.due("10: 000 has no step to itself", same.step(), -1);
        Check.due("12: one chain", same.chains(), 1);

        UnitigBuilder entered = Check.withReads(3, 1, "1000");
        duePlace("8: 000 follows itself and 100", entered, "100", 1, 0);
        duePlace("8: 000 follows itself and 100", entered, "000", 1, 0);

        UnitigBuilder mirrors = Check.withReads(3, 1, "0123");
        duePlace("8: 123 is the mirror of 012", mirrors, "012", 1, 0);
        Check.due("10: no step to the mirror", mirrors.step(), -1);
        duePlace("8: 012 is the mirror of 123", mirrors, "123", 1, 0);
        Check.due("12: one chain", mirrors.chains(), 1);

        UnitigBuilder onlyRead = Check.withReads(3, 1, "3012");
        duePlace("8: 301, 012 are a row, 123 breaks it", onlyRead, "301", 2, 0);
        duePlace("8: 301, 012 are a row, 123 breaks it", onlyRead, "012", 2, 1);
        duePlace("8: the mirrors", onlyRead, "123", 2, 0);
        duePlace("8: the mirrors", onlyRead, "230", 2, 1);
    }

    private static void promise8LongPieces() {
        UnitigBuilder builder = Check.withReads(5, 1, "001120331");
        String[] row = {"00112", "01120", "11203", "12033", "20331"};
        String[] mirrors = {"20031", "00312", "03122", "31223", "12233"};
        for (int place = 0; place < 5; place++) {
            duePlace("8: a row of five", builder, row[place], 5, place);
            duePlace("8: its mirror", builder, mirrors[place], 5, place);
        }
        Check.due("11: five pieces", builder.solid(), 5);
        Check.due("12: one chain", builder.chains(), 1);
        Check.due("13: five", builder.longest(), 5);
        Check.readWhole(builder, "11202");
        duePlace("8: cut by a second follower", builder, "01120", 2, 1);
        duePlace("8: cut by a second follower", builder, "20331", 3, 2);
        duePlace("8: cut by a second follower", builder, "11202", 1, 0);

        UnitigBuilder mirrorPair = Check.withReads(5, 1, "001233");
        duePlace("8: 01233 is the mirror of 00123", mirrorPair, "01233", 1, 0);
    }

    private static void promise9() {
        UnitigBuilder builder = Check.withReads(5, 1, "001120331");
        Check.probe(builder, "00112");
        for (int place = 0; place < 5; place++) {
            Check.due("9: at place " + place, builder.before(), place);
            builder.turn();
            Check.due("9: turned at place " + place, builder.before(), 4 - place);
            builder.turn();
            builder.step();
        }
        Check.due("9: a refused step stays at the last", builder.before(), 4);
    }

    private static void promise9Ring() {
        UnitigBuilder two = Check.withReads(3, 1, "0101");
        duePlace("9: a ring of two", two, "010", 2, -2);
        duePlace("9: a ring of two", two, "101", 2, -2);
        duePlace("9: the mirror ring", two, "323", 2, -2);
        Check.due("12: one ring", two.chains(), 1);
        Check.due("13: a ring of two", two.longest(), 2);

        UnitigBuilder three = Check.withReads(3, 1, "00100");
        for (String piece : new String[] {"001", "010", "100", "332", "323", "233"}) {
            duePlace("9: a ring of three", three, piece, 3, -2);
        }
        Check.readWhole(three, "000");
        duePlace("9: the ring is cut at 00", three, "001", 3, 0);
        duePlace("9: the ring is cut at 00", three, "010", 3, 1);
        duePlace("9: the ring is cut at 00", three, "100", 3, 2);
        three.floor(2);
        Check.due("9: not solid any more", three.before(), -1);

        UnitigBuilder five = Check.withReads(5, 1, "001010010");
        for (String piece : new String[] {"00101", "01010", "10100", "01001", "10010"}) {
            duePlace("9: a ring of five", five, piece, 5, -2);
        }

        // 32103, the mirror of 03210, follows 03210 as 32100 does: what looks like a ring is none.
        UnitigBuilder cut = Check.withReads(5, 1, "321003210");
        String[] row = {"32100", "21003", "10032", "00321", "03210"};
        for (int place = 0; place < 5; place++) {
            duePlace("9: a ring cut by its mirror", cut, row[place], 5, place);
        }
    }

    private static void promise10() {
        UnitigBuilder builder = Check.withReads(3, 1, "00113");
        Check.probe(builder, "001");
        Check.due("10: to 011", builder.step(), 1);
        Check.due("10: to 113", builder.step(), 3);
        Check.due("10: none after 113", builder.step(), -1);
        Check.due("10: still 113", builder.before(), 2);
        Check.due("10: the probe keeps its length", builder.probe(3), 3);
        Check.due("10: 133 was not read", builder.step(), -1);
        Check.due("10: 133 has no count", builder.count(), 0);
        Check.probe(builder, "01");
        Check.due("10: 301 was not read", builder.chain(), -1);
        Check.probe(builder, "1");
        Check.due("10: the last letters of 301 and 1 are 011", builder.step(), 3);

        UnitigBuilder zero = Check.withReads(3, 1, "0110");
        Check.probe(zero, "011");
        Check.due("10: letter 0 is an answer", zero.step(), 0);
        Check.due("10: the probe has moved", zero.before(), 1);
    }

    private static void promise10Ring() {
        UnitigBuilder builder = Check.withReads(3, 1, "00100");
        Check.probe(builder, "001");
        for (int round = 0; round < 5; round++) {
            Check.due("10: ring, to 010", builder.step(), 0);
            Check.due("10: ring, to 100", builder.step(), 0);
            Check.due("10: ring, to 001", builder.step(), 1);
        }
    }

    private static void promise11() {
        UnitigBuilder builder = Check.withReads(3, 1, "0123", "0000", "333", "001");
        Check.due("11: 012, 000 and 001, the mirrors with them", builder.solid(), 3);
        builder.floor(2);
        Check.due("11: 012 and 000 are seen twice", builder.solid(), 2);
        builder.floor(3);
        Check.due("11: 000 is seen three times", builder.solid(), 1);
        builder.floor(4);
        Check.due("11: none is seen four times", builder.solid(), 0);

        UnitigBuilder all = Check.withReads(3, 1, everyPiece());
        Check.due("11: every piece of three letters", all.solid(), 32);
        Check.due("12: each is a chain", all.chains(), 32);
        Check.due("13: of one piece", all.longest(), 1);
    }

    /** A row in which every piece of three letters stands once: it goes on with what is not in it yet. */
    private static String everyPiece() {
        StringBuilder row = new StringBuilder("000");
        boolean grown = true;
        while (grown) {
            grown = false;
            for (char letter = '3'; letter >= '0' && !grown; letter--) {
                String piece = row.substring(row.length() - 2) + letter;
                if (row.indexOf(piece) < 0) {
                    row.append(letter);
                    grown = true;
                }
            }
        }
        return row.toString();
    }

    private static void promise12() {
        UnitigBuilder builder = Check.withReads(3, 1, "00113");
        Check.due("12: one chain", builder.chains(), 1);
        Check.readWhole(builder, "110");
        Check.due("12: cut in two, and 110", builder.chains(), 3);
        builder.floor(2);
        Check.due("12: nothing solid, no chain", builder.chains(), 0);

        UnitigBuilder rings = Check.withReads(3, 1, "0101", "0202");
        Check.due("12: two rings", rings.chains(), 2);
        Check.due("11: four pieces", rings.solid(), 4);
        Check.due("13: of two each", rings.longest(), 2);
        Check.readWhole(rings, "111");
        Check.due("12: two rings and a piece alone", rings.chains(), 3);

        UnitigBuilder given = Check.withReads(3, 1, "00113", "02233");
        Check.due("12: a chain and that of the mirrors are one", given.chains(), 1);
    }

    private static void promise13() {
        UnitigBuilder builder = Check.withReads(3, 1, "0011", "000");
        Check.due("13: 001, 011", builder.longest(), 2);
        Check.readWhole(builder, "113");
        Check.due("13: 001, 011, 113", builder.longest(), 3);
        builder.floor(9);
        Check.due("13: none solid", builder.longest(), 0);

        UnitigBuilder ring = Check.withReads(3, 1, "00100", "111");
        Check.due("13: the ring is the longest", ring.longest(), 3);
        Check.due("12: the ring and the piece beside it", ring.chains(), 2);
    }

    private static void promise14() {
        UnitigBuilder builder = Check.withReads(3, 1, "00113");
        Check.read(builder, "2".repeat(91));
        Check.probe(builder, "113");
        for (int round = 0; round < 3; round++) {
            Check.due("14: a refused step", builder.step(), -1);
            Check.due("14: a refused read", builder.read(0), -1);
            Check.due("14: the probe stays", builder.count(), 1);
            Check.due("14: solid stays", builder.solid(), 4);
        }
        UnitigBuilder shortProbe = Check.withReads(5, 1, "00113");
        Check.probe(shortProbe, "0011");
        Check.due("14: refused count", shortProbe.count(), -1);
        Check.due("14: refused chain", shortProbe.chain(), -1);
        Check.due("14: refused before", shortProbe.before(), -1);
        Check.due("14: refused step", shortProbe.step(), -1);
        Check.due("14: the short probe goes on", shortProbe.probe(3), 5);
        Check.due("14: with its letters", shortProbe.count(), 1);
    }

    private static void objectsAreApart() {
        UnitigBuilder one = Check.withReads(3, 1, "000");
        UnitigBuilder other = new UnitigBuilder(5, 9);
        Check.due("another object has read nothing", other.solid(), 0);
        Check.due("another object has taken nothing", other.read(0), 1);
        Check.due("the first has its own", one.solid(), 1);
    }

    private static void dueCount(String what, UnitigBuilder builder, String piece, int count) {
        Check.probe(builder, piece);
        Check.due(what + ", count of " + piece, builder.count(), count);
    }

    private static void duePlace(String what, UnitigBuilder builder, String piece, int chain, int before) {
        Check.probe(builder, piece);
        Check.due(what + ", chain of " + piece, builder.chain(), chain);
        Check.due(what + ", before " + piece, builder.before(), before);
    }
}
