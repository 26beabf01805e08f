/** The boundary cases of promises 1 to 12, sentence by sentence: the drums, their tracks and their playing. */
public final class BoundaryDrumsTest {
    public static void main(String[] args) {
        newObject();
        cut();
        strip();
        share();
        places();
        read();
        write();
        writeLevels();
        turn();
        turnLevels();
        turnLevelsToTheBound();
        turnLevelsToFullFractions();
        turnLevelsToNothing();
        head();
        playSoMany();
        playToTheEnd();
        playGaps();
        playNotes();
        heard();
        heardHighestAndGreatest();
        quiet();
        Runs.end();
    }

    private static void newObject() {
        Runs.run("1: All TRACKS LACK", """
            state() = 0
            places({0..7}, {0..4}) = LACKING
            """);
        Runs.run("1: no COMBS", """
            about({0..3}, {0..3}) = NONE
            drop({0..3}) = NONE
            """);
        Runs.run("1: nothing is heard, and every HEAD is at 0", """
            heard({0..7}, {0..6}) = 0
            head({0..7}, 0) = 0
            quiet({0..7}) = 0
            play({0..7}, 20) = 0
            """);
    }

    private static void cut() {
        Runs.eachKind("2: SIZE: n is not 0 .. 300", """
            cut({0 7}, kind, {0 1 299 300}) = $3
            cut({0 7}, kind, {-1 301 -300 512 65536 65836 MIN MAX}) = SIZE
            places({0 7}, kind) = 300
            """);
        Runs.eachKind("2: SIZE leaves a TRACK that LACKS lacking", """
            cut(4, kind, {-1 301 MIN MAX}) = SIZE
            places(4, kind) = LACKING
            """);
        Runs.eachKind("2: n PLACES, all 0: all 300 of them", """
            cut(0, kind, 300) = 300
            read(0, kind, {0..249}) = 0
            """);
        Runs.eachKind("2: n PLACES, all 0: the last fifty, and no more", """
            cut(0, kind, 300) = 300
            read(0, kind, {250..299}) = 0
            read(0, kind, 300) = BEYOND
            """);
        Runs.eachKind("2: in the place of what it was: all 0 again, with just as many PLACES", """
            cut(0, kind, 3) = 3
            write(0, kind, {0..2}, 1) = 0
            cut(0, kind, 3) = 3
            read(0, kind, {0..2}) = 0
            """);
        Runs.eachKind("2: in the place of what it was: more PLACES, fewer, none", """
            cut(0, kind, 2) = 2
            write(0, kind, {0 1}, 1) = 0
            cut(0, kind, 4) = 4
            read(0, kind, {0..3}) = 0
            write(0, kind, {0..3}, 1) = 0
            cut(0, kind, 1) = 1
            read(0, kind, 0) = 0
            read(0, kind, {1 3}) = BEYOND
            cut(0, kind, 0) = 0
            read(0, kind, 0) = BEYOND
            cut(0, kind, 2) = 2
            read(0, kind, {0 1}) = 0
            """);
        Runs.eachKind("2: others that have that one keep it: drums", """
            cut(0, kind, 3) = 3
            write(0, kind, 2, 1) = 0
            share(0, 7, kind) = 3
            cut(0, kind, 0) = 0
            places(7, kind) = 3
            read(7, kind, 2) = one
            cut(7, kind, {-1 301}) = SIZE
            read(7, kind, 2) = one
            """);
        Runs.eachKind("2: others that have that one keep it: TEETH", """
            comb(3, kind, 1, 2) = 1
            set(3, 0, 1, 1) = 0
            fit(3, 0, 5) = 2
            cut(5, kind, 300) = 300
            cell(3, 0, 1) = one
            cell(3, 0, 2) = BEYOND
            write(5, kind, 1, 0) = 0
            cell(3, 0, 1) = one
            """);
        Runs.run("2: what was heard and the HEAD stay", """
            cut(0, 1, 5) = 5
            play(0, 4) = 4
            cut(0, 1, 2) = 2
            heard(0, {0 1 6}) = 4
            heard(0, 2) = 16
            """);
    }

    private static void strip() {
        Runs.eachKind("3: LACKING: at first, and once it was stripped", """
            strip({0 7}, kind) = LACKING
            cut({0 7}, kind, 1) = 1
            strip({0 7}, kind) = 1
            strip({0 7}, kind) = LACKING
            """);
        Runs.eachKind("3: how many PLACES it had: none, one, the most", """
            cut(0, kind, 0) = 0
            strip(0, kind) = 0
            cut(0, kind, 1) = 1
            strip(0, kind) = 1
            cut(0, kind, 300) = 300
            strip(0, kind) = 300
            """);
        Runs.eachKind("3: It LACKS from now on, for every call", """
            cut(0, kind, 2) = 2
            write(0, kind, 1, 1) = 0
            comb(0, kind, 1, 1) = 1
            strip(0, kind) = 2
            places(0, kind) = LACKING
            read(0, kind, 1) = LACKING
            write(0, kind, 1, 1) = LACKING
            turn(0, kind, 1, 1) = LACKING
            share(0, 1, kind) = LACKING
            hang(0, 0, 0) = LACKING
            cut(0, kind, 2) = 2
            read(0, kind, 1) = 0
            """);
        Runs.eachKind("3: (here): others that have it keep it", """
            cut(0, kind, 2) = 2
            write(0, kind, 1, 1) = 0
            share(0, 1, kind) = 2
            comb(0, kind, 1, 1) = 1
            hang(0, 0, 0) = 2
            strip(0, kind) = 2
            read(1, kind, 1) = one
            cell(0, 0, 1) = one
            strip(1, kind) = 2
            cell(0, 0, 1) = one
            """);
        Runs.run("3: the drum's other TRACKS stay", """
            cut(0, {0..4}, 2) = 2
            strip(0, 2) = 2
            places(0, {0 1 3 4}) = 2
            """);
    }

    private static void share() {
        Runs.eachKind("4: LACKING (of from): to keeps what it has", """
            cut(1, kind, 4) = 4
            write(1, kind, 3, 1) = 0
            share({0 2 7}, 1, kind) = LACKING
            places(1, kind) = 4
            read(1, kind, 3) = one
            """);
        Runs.eachKind("4: LACKING (of from), where both are one drum, or both lack", """
            share(3, 3, kind) = LACKING
            share(3, 4, kind) = LACKING
            """);
        Runs.eachKind("4: LACKING is of from alone: to may lack", """
            cut(0, kind, 4) = 4
            share(0, 7, kind) = 4
            places({0 7}, kind) = 4
            """);
        Runs.eachKind("4: LACKING of that KIND, though from has all others", """
            cut(0, {0..4}, 3) = 3
            strip(0, kind) = 3
            share(0, 1, kind) = LACKING
            """);
        Runs.eachKind("4: how many PLACES: none, the most", """
            cut(0, kind, 0) = 0
            cut(1, kind, 300) = 300
            share(0, 2, kind) = 0
            places(2, kind) = 0
            share(1, 2, kind) = 300
            places(2, kind) = 300
            share(0, 2, kind) = 0
            read(2, kind, 0) = BEYOND
            """);
        Runs.eachKind("4: the very TRACK: with itself it is the same as before", """
            cut(0, kind, 3) = 3
            write(0, kind, 2, 1) = 0
            share(0, 0, kind) = 3
            read(0, kind, 2) = one
            """);
        Runs.eachKind("4: the very TRACK, there and back and on", """
            cut(0, kind, 2) = 2
            share(0, 7, kind) = 2
            share(7, 0, kind) = 2
            share(7, 3, kind) = 2
            write(3, kind, 1, 1) = 0
            read({0 7 3}, kind, 1) = one
            write(0, kind, 1, 0) = 0
            read({0 7 3}, kind, 1) = 0
            """);
        Runs.eachKind("4: what to had before stays with the others that have it", """
            cut(0, kind, 2) = 2
            cut(1, kind, 3) = 3
            share(1, 2, kind) = 3
            write(1, kind, 2, 1) = 0
            share(0, 1, kind) = 2
            read(2, kind, 2) = one
            read(1, kind, 2) = BEYOND
            """);
        Runs.run("4: of that KIND alone", """
            cut(0, {0..4}, 2) = 2
            share(0, 1, 3) = 2
            places(1, {0 1 2 4}) = LACKING
            """);
    }

    private static void places() {
        Runs.eachKind("5: How many PLACES it has: none, one, the most", """
            cut(0, kind, {0 1 300}) = $3
            places(0, kind) = 300
            cut(0, kind, 1) = 1
            places(0, kind) = 1
            cut(0, kind, 0) = 0
            places(0, kind) = 0
            """);
        Runs.eachKind("5: LACKING is not the same as none", """
            places(0, kind) = LACKING
            cut(0, kind, 0) = 0
            places(0, kind) = 0
            strip(0, kind) = 0
            places(0, kind) = LACKING
            """);
        Runs.eachKind("5: a TRACK from a tooth or another drum has what it has there", """
            comb(0, kind, 1, 40) = 1
            fit(0, 0, 2) = 40
            places(2, kind) = 40
            share(2, 3, kind) = 40
            places(3, kind) = 40
            """);
    }

    private static void read() {
        Runs.eachKind("6: LACKING", """
            read({0 7}, kind, {0 1 299}) = LACKING
            """);
        Runs.eachKind("6: BEYOND: before the first and behind the last", """
            cut(0, kind, 5) = 5
            write(0, kind, {0..4}, 1) = 0
            read(0, kind, {0..4}) = one
            read(0, kind, {-1 -5 5 6 256 260 65536 65540 MIN MAX}) = BEYOND
            """);
        Runs.eachKind("6: BEYOND: each PLACE of a TRACK of none", """
            cut(0, kind, 0) = 0
            read(0, kind, {-1 0 1 MIN MAX}) = BEYOND
            """);
        Runs.run("6: of LEVELS the 32 bits", """
            cut(0, 3, 5) = 5
            write(0, 3, 0, 8) = 0
            read(0, 3, 0) = 1065353216
            write(0, 3, 1, -8) = 0
            read(0, 3, 1) = -1082130432
            write(0, 3, 2, 1) = 0
            read(0, 3, 2) = 1040187392
            write(0, 3, 3, -7999999) = 0
            read(0, 3, 3) = f-999999.875
            read(0, 3, 4) = 0
            turn(0, 3, 4, -1) = 0
            read(0, 3, 4) = MIN           # minus zero
            """);
        Runs.run("6: a value that looks like a refusal is none", """
            cut(0, {2 4}, 1) = 1
            write(0, 2, 0, -3) = 0
            read(0, 2, 0) = -3
            write(0, 4, 0, -2) = 0
            read(0, 4, 0) = -2
            """);
    }

    private static void write() {
        Runs.run("7: PINS 1, if v is not 0", """
            cut(0, 0, 8) = 8
            write(0, 0, 0, 1) = 0
            write(0, 0, 1, 2) = 0
            write(0, 0, 2, -1) = 0
            write(0, 0, 3, 256) = 0
            write(0, 0, 4, 65536) = 0
            write(0, 0, 5, MIN) = 0
            write(0, 0, 6, MAX) = 0
            read(0, 0, {0..6}) = 1
            write(0, 0, 7, 0) = 0
            read(0, 0, 7) = 0
            write(0, 0, {0..6}, 0) = 0
            read(0, 0, {0..6}) = 0
            """);
        wrap("7: SIGNS the lowest 16 bits of v", 1, new int[][] {{0, 0}, {65535, 65535}, {65536, 0}, {65537, 1},
            {32768, 32768}, {-1, 65535}, {-65535, 1}, {-65536, 0}, {-65537, 65535}, {131071, 65535}, {256, 256},
            {Integer.MIN_VALUE, 0}, {Integer.MAX_VALUE, 65535}});
        wrap("7: LENGTHS the lowest 16 bits of v", 2, new int[][] {{0, 0}, {32767, 32767}, {32768, -32768},
            {32769, -32767}, {65535, -1}, {65536, 0}, {65537, 1}, {98303, 32767}, {98304, -32768}, {-1, -1},
            {-32768, -32768}, {-32769, 32767}, {-65536, 0}, {128, 128}, {Integer.MIN_VALUE, 0},
            {Integer.MAX_VALUE, -1}});
        wrap("7: BENDS the lowest 8 bits of v", 4, new int[][] {{0, 0}, {127, 127}, {128, -128}, {129, -127},
            {255, -1}, {256, 0}, {257, 1}, {383, 127}, {384, -128}, {-1, -1}, {-128, -128}, {-129, 127}, {-256, 0},
            {32768, 0}, {65535, -1}, {Integer.MIN_VALUE, 0}, {Integer.MAX_VALUE, -1}});
        Runs.eachKind("7: LACKING", """
            write({0 7}, kind, 0, {0 1}) = LACKING
            cut(0, kind, 1) = 1
            write(0, kind, 0, 1) = 0
            strip(0, kind) = 1
            write(0, kind, 0, 1) = LACKING
            """);
        Runs.eachKind("7: BEYOND: before the first and behind the last", """
            cut(0, kind, 3) = 3
            write(0, kind, {-1 -3 3 4 256 258 65536 65538 MIN MAX}, 1) = BEYOND
            read(0, kind, {0..2}) = 0
            write(0, kind, {0..2}, 1) = 0
            write(0, kind, {-1 3 256 65536}, 0) = BEYOND
            read(0, kind, {0..2}) = one
            """);
        Runs.eachKind("7: PLACE k gets a value, its neighbours do not: the first and the last", """
            cut(0, kind, 4) = 4
            write(0, kind, {0 3}, 1) = 0
            read(0, kind, {0 3}) = one
            read(0, kind, {1 2}) = 0
            """);
    }

    /** Each pair: a value that is written at a place of some other value, and what is read then. */
    private static void wrap(String sentence, int kind, int[][] pairs) {
        StringBuilder rows = new StringBuilder("cut(0, " + kind + ", 3) = 3\n");
        for (int[] pair : pairs) {
            rows.append("write(0, ").append(kind).append(", 1, ").append(~pair[1]).append(") = 0\n");
            rows.append("write(0, ").append(kind).append(", 1, ").append(pair[0]).append(") = 0\n");
            rows.append("read(0, ").append(kind).append(", 1) = ").append(pair[1]).append('\n');
            rows.append("read(0, ").append(kind).append(", {0 2}) = 0\n");
        }
        Runs.run(sentence, rows.toString());
    }

    private static void writeLevels() {
        Runs.run("7: BOUND: of LEVELS v is not -8000000 .. 8000000", """
            cut(0, 3, 2) = 2
            write(0, 3, 1, 8000000) = 0
            read(0, 3, 1) = f1000000
            write(0, 3, 1, {8000001 16777216 MAX}) = BOUND
            read(0, 3, 1) = f1000000
            write(0, 3, 1, -8000000) = 0
            read(0, 3, 1) = f-1000000
            write(0, 3, 1, {-8000001 -16777216 MIN}) = BOUND
            read(0, 3, 1) = f-1000000
            write(0, 3, 1, 7999999) = 0
            read(0, 3, 1) = f999999.875
            write(0, 3, 1, -7999999) = 0
            read(0, 3, 1) = f-999999.875
            read(0, 3, 0) = 0
            """);
        Runs.run("7: LEVELS v eighths: about 0", """
            cut(0, 3, 1) = 1
            write(0, 3, 0, 1) = 0
            read(0, 3, 0) = f0.125
            write(0, 3, 0, -1) = 0
            read(0, 3, 0) = f-0.125
            write(0, 3, 0, 0) = 0
            read(0, 3, 0) = 0
            write(0, 3, 0, 7) = 0
            read(0, 3, 0) = f0.875
            write(0, 3, 0, -9) = 0
            read(0, 3, 0) = f-1.125
            """);
        Runs.run("7: LEVELS v eighths: 0 written over minus zero is 0", """
            cut(0, 3, 1) = 1
            turn(0, 3, 0, -4) = 0
            read(0, 3, 0) = f-0.0
            write(0, 3, 0, 0) = 0
            read(0, 3, 0) = f0.0
            """);
        Runs.run("7: LEVELS v eighths: about the powers of 2, where the exponent changes", """
            cut(0, 3, 1) = 1
            write(0, 3, 0, 4194303) = 0
            read(0, 3, 0) = f524287.875
            write(0, 3, 0, 4194304) = 0
            read(0, 3, 0) = f524288
            write(0, 3, 0, -4194305) = 0
            read(0, 3, 0) = f-524288.125
            write(0, 3, 0, 15) = 0
            read(0, 3, 0) = f1.875
            write(0, 3, 0, 16) = 0
            read(0, 3, 0) = f2
            write(0, 3, 0, 17) = 0
            read(0, 3, 0) = f2.125
            """);
    }

    private static void turn() {
        Runs.run("8: PINS, if v is odd, the other one of both", """
            cut(0, 0, 3) = 3
            turn(0, 0, 1, {0 2 -2 256 65536 MIN}) = 0
            read(0, 0, 1) = 0
            turn(0, 0, 1, 1) = 0
            read(0, 0, 1) = 1
            turn(0, 0, 1, {0 2 -2 256 65536 MIN}) = 0
            read(0, 0, 1) = 1
            turn(0, 0, 1, -1) = 0
            read(0, 0, 1) = 0
            turn(0, 0, 1, MAX) = 0
            read(0, 0, 1) = 1
            turn(0, 0, 1, -2147483647) = 0
            read(0, 0, 1) = 0
            turn(0, 0, 1, {3 -3 65537}) = 0
            read(0, 0, 1) = 1
            read(0, 0, {0 2}) = 0
            """);
        turnWrap("8: SIGNS v more (the lowest 16 bits of that)", 1, new int[][] {{65535, 1, 0}, {65535, 2, 1},
            {0, -1, 65535}, {0, 0, 0}, {5, -5, 0}, {5, -6, 65535}, {65535, 65535, 65534}, {7, 65536, 7},
            {7, -65536, 7}, {32767, 1, 32768}, {5, Integer.MIN_VALUE, 5}, {5, Integer.MAX_VALUE, 4},
            {65535, Integer.MAX_VALUE, 65534}});
        turnWrap("8: LENGTHS v times as much (the lowest 16 bits of that)", 2, new int[][] {{32767, 2, -2},
            {16384, 2, -32768}, {-32768, -1, -32768}, {-32768, 2, 0}, {256, 256, 0}, {181, 181, 32761},
            {182, 181, -32594}, {9, 0, 0}, {9, -1, -9}, {3, 65537, 3}, {3, 65536, 0}, {3, Integer.MIN_VALUE, 0},
            {1, Integer.MAX_VALUE, -1}, {32767, Integer.MAX_VALUE, -32767}, {-32768, 32767, -32768},
            {32767, 32767, 1}, {0, Integer.MAX_VALUE, 0}});
        turnWrap("8: BENDS v less (the lowest 8 bits of that)", 4, new int[][] {{-128, 1, 127}, {127, -1, -128},
            {0, 128, -128}, {0, -128, -128}, {0, 127, -127}, {0, 129, 127}, {5, 256, 5}, {5, -256, 5}, {5, 5, 0},
            {-128, -255, 127}, {127, 255, -128}, {5, Integer.MIN_VALUE, 5}, {5, Integer.MAX_VALUE, 6},
            {-128, Integer.MIN_VALUE, -128}, {3, 65536, 3}});
        Runs.eachKind("8: LACKING", """
            turn({0 7}, kind, 0, {0 1}) = LACKING
            cut(0, kind, 1) = 1
            turn(0, kind, 0, 1) = 0
            strip(0, kind) = 1
            turn(0, kind, 0, 1) = LACKING
            """);
        Runs.eachKind("8: BEYOND: before the first and behind the last", """
            cut(0, kind, 3) = 3
            write(0, kind, {0..2}, 1) = 0
            turn(0, kind, {-1 -3 3 4 256 258 65536 65538 MIN MAX}, 3) = BEYOND
            read(0, kind, {0..2}) = one
            turn(0, kind, {0..2}, 0) = 0
            cut(0, kind, 0) = 0
            turn(0, kind, {-1 0 1}, 3) = BEYOND
            """);
    }

    /** Each three: a value, what it is turned by, and what it is then. */
    private static void turnWrap(String sentence, int kind, int[][] threes) {
        StringBuilder rows = new StringBuilder("cut(0, " + kind + ", 3) = 3\n");
        for (int[] three : threes) {
            rows.append("write(0, ").append(kind).append(", 1, ").append(three[0]).append(") = 0\n");
            rows.append("turn(0, ").append(kind).append(", 1, ").append(three[1]).append(") = 0\n");
            rows.append("read(0, ").append(kind).append(", 1) = ").append(three[2]).append('\n');
            rows.append("read(0, ").append(kind).append(", {0 2}) = 0\n");
        }
        Runs.run(sentence, rows.toString());
    }

    private static void turnLevels() {
        Runs.run("8: BOUND: of LEVELS v is not -4000 .. 4000", """
            cut(0, 3, 2) = 2
            write(0, 3, 1, 8) = 0
            turn(0, 3, 1, {-4001 4001 -65536 65536 MIN MAX}) = BOUND
            read(0, 3, 1) = f1
            turn(0, 3, 1, 4000) = 0
            read(0, 3, 1) = f1000
            write(0, 3, 1, 8) = 0
            turn(0, 3, 1, -4000) = 0
            read(0, 3, 1) = f-1000
            turn(0, 3, 1, {-4001 4001 MIN MAX}) = BOUND
            read(0, 3, 1) = f-1000
            read(0, 3, 0) = 0
            """);
        Runs.run("8: BOUND by v, though 0 times as much would be 0", """
            cut(0, 3, 1) = 1
            turn(0, 3, 0, {-4001 4001 MIN MAX}) = BOUND
            read(0, 3, 0) = 0
            turn(0, 3, 0, 4000) = 0
            read(0, 3, 0) = 0
            """);
        Runs.run("8: LEVELS v quarters times as much", """
            cut(0, 3, 1) = 1
            write(0, 3, 0, 8) = 0
            turn(0, 3, 0, 1) = 0
            read(0, 3, 0) = f0.25
            turn(0, 3, 0, -3) = 0
            read(0, 3, 0) = f-0.1875
            turn(0, 3, 0, 4) = 0
            read(0, 3, 0) = f-0.1875
            turn(0, 3, 0, -4) = 0
            read(0, 3, 0) = f0.1875
            """);
    }

    // e eighths turned by v quarters are e * v / 32: 57041 * 561 is 32000001, 146789 * 218 is 32000002,
    // and 73903 * 433 is 31999999. Floats there are a sixteenth apart.
    private static void turnLevelsToTheBound() {
        Runs.run("8: BOUND: it would be below -1000000 or above 1000000", """
            cut(0, 3, 1) = 1
            write(0, 3, 0, 8000000) = 0
            turn(0, 3, 0, {5 -5 4000 -4000}) = BOUND
            read(0, 3, 0) = f1000000
            turn(0, 3, 0, 4) = 0
            read(0, 3, 0) = f1000000
            turn(0, 3, 0, -4) = 0
            read(0, 3, 0) = f-1000000
            turn(0, 3, 0, {5 -5 4000 -4000}) = BOUND
            turn(0, 3, 0, 4) = 0
            read(0, 3, 0) = f-1000000
            """);
        Runs.run("8: BOUND: a million itself is none, by the greatest and the least v", """
            cut(0, 3, 1) = 1
            write(0, 3, 0, 8000) = 0
            turn(0, 3, 0, 4000) = 0
            read(0, 3, 0) = f1000000
            write(0, 3, 0, 8000) = 0
            turn(0, 3, 0, -4000) = 0
            read(0, 3, 0) = f-1000000
            write(0, 3, 0, 8001) = 0
            turn(0, 3, 0, {4000 -4000}) = BOUND
            read(0, 3, 0) = f1000.125
            write(0, 3, 0, -8001) = 0
            turn(0, 3, 0, {4000 -4000}) = BOUND
            read(0, 3, 0) = f-1000.125
            """);
        Runs.run("8: BOUND: the next float above a million, the next below a million less", """
            cut(0, 3, 1) = 1
            write(0, 3, 0, 146789) = 0
            turn(0, 3, 0, {218 -218}) = BOUND
            read(0, 3, 0) = f18348.625
            write(0, 3, 0, -146789) = 0
            turn(0, 3, 0, {218 -218}) = BOUND
            read(0, 3, 0) = f-18348.625
            turn(0, 3, 0, 217) = 0
            """);
        Runs.run("8: the float times the float v quarters: what rounds to a million is a million", """
            cut(0, 3, 1) = 1
            write(0, 3, 0, 57041) = 0
            turn(0, 3, 0, 561) = 0
            read(0, 3, 0) = f1000000
            write(0, 3, 0, 57041) = 0
            turn(0, 3, 0, -561) = 0
            read(0, 3, 0) = f-1000000
            write(0, 3, 0, 73903) = 0
            turn(0, 3, 0, 433) = 0
            read(0, 3, 0) = f1000000
            """);
    }

    // 178481 * 47 is 2 to the 23rd less 1, 12291 * 1365 is 2 to the 24th less 1.
    private static void turnLevelsToFullFractions() {
        Runs.run("8: LEVELS: 32 bits hold a fraction of 24 bits, all of them 1", """
            cut(0, 3, 1) = 1
            write(0, 3, 0, 178481) = 0
            turn(0, 3, 0, 47) = 0
            read(0, 3, 0) = f262143.96875
            turn(0, 3, 0, -2) = 0
            read(0, 3, 0) = f-131071.984375
            write(0, 3, 0, 12291) = 0
            turn(0, 3, 0, 1365) = 0
            read(0, 3, 0) = f524287.96875
            turn(0, 3, 0, -1) = 0
            read(0, 3, 0) = f-131071.9921875
            """);
    }

    private static void turnLevelsToNothing() {
        Runs.run("8: LEVELS: 0 times as much keeps the sign, as IEEE 754 has it", """
            cut(0, 3, 1) = 1
            write(0, 3, 0, 8) = 0
            turn(0, 3, 0, 0) = 0
            read(0, 3, 0) = f0.0
            turn(0, 3, 0, -1) = 0
            read(0, 3, 0) = f-0.0
            turn(0, 3, 0, 4000) = 0
            read(0, 3, 0) = f-0.0
            turn(0, 3, 0, -4000) = 0
            read(0, 3, 0) = f0.0
            write(0, 3, 0, -8) = 0
            turn(0, 3, 0, 0) = 0
            read(0, 3, 0) = f-0.0
            """);
        Runs.run("8: LEVELS: the least of the usual numbers, the least of all, and what is too small", """
            cut(0, 3, 1) = 1
            write(0, 3, 0, 8) = 0
            63x turn(0, 3, 0, 1) = 0
            read(0, 3, 0) = 8388608       # the least with a full fraction: 2 to the -126th
            turn(0, 3, 0, 2) = 0
            read(0, 3, 0) = 4194304
            11x turn(0, 3, 0, 1) = 0
            read(0, 3, 0) = 1             # the least of all: 2 to the -149th
            turn(0, 3, 0, {3 4 5}) = 0
            read(0, 3, 0) = 1
            turn(0, 3, 0, 7) = 0
            read(0, 3, 0) = 2
            turn(0, 3, 0, -2) = 0
            read(0, 3, 0) = -2147483647
            turn(0, 3, 0, 2) = 0
            read(0, 3, 0) = f-0.0         # the half of the least goes to the even one
            """);
        Runs.run("8: LEVELS: a full fraction loses bits below the usual numbers, and comes back without them", """
            cut(0, 3, 1) = 1
            write(0, 3, 0, 7999999) = 0
            76x turn(0, 3, 0, 1) = 0
            read(0, 3, 0) = SMALL
            12x turn(0, 3, 0, 16) = 0
            read(0, 3, 0) = BACK
            """.replace("SMALL", "" + Float.floatToRawIntBits(turned(999999.875f, 76, 0)))
               .replace("BACK", "" + Float.floatToRawIntBits(turned(999999.875f, 76, 12))));
    }

    /** So many times a quarter, then so many times fourfold. */
    private static float turned(float level, int quarters, int fourfold) {
        float now = level;
        for (int i = 0; i < quarters; i++) {
            now = now * 0.25f;
        }
        for (int i = 0; i < fourfold; i++) {
            now = now * 4f;
        }
        return now;
    }

    private static void head() {
        Runs.run("9: SIZE: k is not 0 .. 300", """
            head(0, 300) = 0
            head(0, {-1 301 -300 512 65536 65836 MIN MAX}) = SIZE
            heard(0, 6) = 300
            head(0, 0) = 300
            head(0, {-1 301 MIN MAX}) = SIZE
            head(0, 1) = 0
            head(0, 299) = 1
            head(0, 299) = 299
            heard(0, 6) = 299
            """);
        Runs.run("9: (at 0 at first)", """
            heard({0..7}, 6) = 0
            head({0..7}, 300) = 0
            heard({0..7}, 6) = 300
            """);
        Runs.run("9: any k up to 300, though no TRACK has the PLACE", """
            cut(2, 1, 3) = 3
            head(2, 3) = 0
            head(2, 300) = 3
            strip(2, 1) = 3
            head(2, 7) = 300
            """);
    }

    private static void playSoMany() {
        Runs.run("10: SIZE: n is not 0 .. 20", """
            cut(0, 1, 300) = 300
            play(0, {-1 21 -20 256 65536 65556 MIN MAX}) = SIZE
            heard(0, {0..6}) = 0
            play(0, 20) = 20
            heard(0, {0 1 6}) = 20
            play(0, {-1 21 MIN MAX}) = SIZE
            heard(0, {0 1 6}) = 20
            play(0, 0) = 0
            heard(0, {0 1 6}) = 20
            play(0, 1) = 1
            heard(0, {0 1 6}) = 21
            play(0, 19) = 19
            heard(0, {0 1 6}) = 40
            """);
        Runs.run("10: n times at most: 19, 20 and 21 PLACES", """
            cut(0, 4, 19) = 19
            cut(1, 4, 20) = 20
            cut(2, 4, 21) = 21
            play(0, 20) = 19
            play(1, 20) = 20
            play(2, 20) = 20
            heard(0, 6) = 19
            heard({1 2}, 6) = 20
            play({0 1}, 20) = 0
            play(2, 20) = 1
            heard(2, 6) = 21
            """);
    }

    private static void playToTheEnd() {
        Runs.eachKind("10: as long as some TRACK of it has the PLACE: whichever it is", """
            cut(0, {0..4}, 1) = 1
            cut(0, kind, 3) = 3
            write(0, {0..4}, 0, 1) = 0
            write(0, kind, 2, 1) = 0
            head(0, 2) = 0
            play(0, 20) = 1
            heard(0, 1) = 1
            heard(0, 2) = 4
            heard(0, 6) = 3
            """);
        Runs.run("10: no TRACK at all: nothing is played, and the HEAD stays", """
            head(5, 4) = 0
            play(5, {0 1 20}) = 0
            heard(5, {0..5}) = 0
            heard(5, 6) = 4
            """);
        Runs.run("10: TRACKS of no PLACES alone: nothing is played", """
            cut(5, {0..4}, 0) = 0
            play(5, 20) = 0
            heard(5, {0..6}) = 0
            """);
        Runs.run("10: the HEAD at the last PLACE, behind it, and far behind it", """
            cut(0, 1, 4) = 4
            head(0, 3) = 0
            play(0, 20) = 1
            heard(0, 6) = 4
            play(0, 20) = 0
            heard(0, 6) = 4
            head(0, 300) = 4
            play(0, 20) = 0
            heard(0, 6) = 300
            heard(0, {0 1}) = 1
            """);
        Runs.run("10: the longest TRACK there is: its last PLACE, and none behind", """
            cut(7, 1, 300) = 300
            head(7, 280) = 0
            play(7, 20) = 20
            heard(7, 6) = 300
            head(7, 299) = 300
            play(7, 20) = 1
            heard(7, 6) = 300
            play(7, 20) = 0
            heard(7, 6) = 300
            heard(7, {0 1}) = 21
            """);
        Runs.run("10: a HEAD that stood behind all goes on where a longer TRACK comes", """
            cut(0, 1, 2) = 2
            play(0, 20) = 2
            cut(0, 4, 5) = 5
            play(0, 20) = 3
            heard(0, 6) = 5
            heard(0, 2) = 20
            strip(0, 4) = 5
            play(0, 20) = 0
            heard(0, 6) = 5
            """);
        Runs.run("10: the HEAD stands behind the last one, with NOTES or without", """
            cut(0, 0, 6) = 6
            write(0, 0, 5, 1) = 0
            play(0, 3) = 0
            heard(0, 6) = 3
            play(0, 20) = 1
            heard(0, 6) = 6
            """);
    }

    private static void playGaps() {
        Runs.run("10: one that LACKS is a GAP: 1, 60, 1, 1 for PINS, SIGNS, LENGTHS, LEVELS", """
            cut(0, 4, 1) = 1
            play(0, 1) = 1
            heard(0, 2) = 4
            heard(0, {3 4}) = 60
            heard(0, 5) = f1
            """);
        Runs.run("10: one that LACKS is a GAP: 0 for BENDS", """
            cut(0, {0 1}, 1) = 1
            write(0, 0, 0, 1) = 0
            write(0, 1, 0, 7) = 0
            play(0, 1) = 1
            heard(0, 2) = 3
            heard(0, {3 4}) = 7
            """);
        Runs.run("10: one that does not have the PLACE is a GAP: the one behind its last", """
            cut(0, {0..3}, 2) = 2
            cut(0, 4, 4) = 4
            write(0, 1, {0 1}, 9) = 0
            play(0, 2) = 0
            heard(0, {2 3 4}) = 0
            play(0, 1) = 1
            heard(0, 2) = 4
            heard(0, {3 4}) = 60
            heard(0, 5) = f1
            play(0, 20) = 1
            heard(0, 2) = 8
            heard(0, 3) = 120
            """);
        Runs.run("10: BENDS behind their last PLACE are 0", """
            cut(0, 4, 1) = 1
            cut(0, 1, 2) = 2
            write(0, 4, 0, -5) = 0
            play(0, 20) = 2
            heard(0, 3) = -5
            heard(0, 4) = 0
            heard(0, 2) = 7
            """);
        Runs.eachKind("10: a TRACK of no PLACES is a GAP as one that LACKS", """
            cut(0, {0..4}, 1) = 1
            write(0, 0, 0, 1) = 0
            cut(0, kind, 0) = 0
            play(0, 20) = 1
            heard(0, {1 2}) = 1
            strip(0, kind) = 0
            head(0, 0) = 1
            play(0, 20) = 1
            heard(0, {1 2}) = 2
            """);
        Runs.run("10: the five TRACKS are asked at each PLACE, with a NOTE or without", """
            cut(0, 0, 3) = 3
            play(0, 20) = 0
            heard(0, 0) = 0
            heard(0, 1) = 3
            heard(0, 2) = 12
            """);
        Runs.run("10: no GAP where all five have the PLACE", """
            cut(0, {0..4}, 20) = 20
            play(0, 20) = 0
            heard(0, 1) = 20
            heard(0, 2) = 0
            """);
    }

    private static void playNotes() {
        Runs.run("10: It is a NOTE, if PINS have 1", """
            cut(0, 0, 4) = 4
            write(0, 0, 0, MIN) = 0
            turn(0, 0, 2, 3) = 0
            play(0, 1) = 1
            play(0, 1) = 0
            play(0, 1) = 1
            play(0, 1) = 0
            heard(0, 0) = 2
            """);
        Runs.run("10: its pitch is SIGN and BEND together: the highest, beyond 65535", """
            cut(0, {1 4}, 1) = 1
            write(0, 1, 0, 65535) = 0
            write(0, 4, 0, 127) = 0
            play(0, 1) = 1
            heard(0, 4) = 65662
            heard(0, 3) = 65662
            """);
        Runs.run("10: its pitch is SIGN and BEND together: the lowest, below 0", """
            cut(0, {1 4}, 1) = 1
            write(0, 4, 0, -128) = 0
            play(0, 1) = 1
            heard(0, 4) = -128
            heard(0, 3) = -128
            """);
        Runs.run("10: its weight the pitch times LENGTH: the greatest, more than an int's", """
            cut(0, {1 2 4}, 1) = 1
            write(0, 1, 0, 65535) = 0
            write(0, 2, 0, 32767) = 0
            write(0, 4, 0, 127) = 0
            play(0, 1) = 1
            heard(0, 3) = 2151546754
            """);
        Runs.run("10: its weight the pitch times LENGTH: the least, less than an int's", """
            cut(0, {1 2 4}, 1) = 1
            write(0, 1, 0, 65535) = 0
            write(0, 2, 0, -32768) = 0
            write(0, 4, 0, 127) = 0
            play(0, 1) = 1
            heard(0, 3) = -2151612416
            """);
        Runs.run("10: its weight the pitch times LENGTH: 0, and both below 0", """
            cut(0, {1 2 4}, 2) = 2
            write(0, 1, 0, 65535) = 0
            write(0, 4, 1, -128) = 0
            write(0, 2, 1, -32768) = 0
            play(0, 1) = 1
            heard(0, 3) = 0
            play(0, 1) = 1
            heard(0, 3) = 4194304
            """);
        Runs.run("10: what is played stays as it was", """
            cut(0, {0..4}, 1) = 1
            write(0, {0..2}, 0, 1) = 0
            write(0, 3, 0, 8) = 0
            write(0, 4, 0, 1) = 0
            play(0, 20) = 1
            read(0, {0 1 2 4}, 0) = 1
            read(0, 3, 0) = f1
            """);
    }

    private static void heard() {
        Runs.run("11: NONE also for another what", """
            cut(0, 1, 3) = 3
            write(0, 1, 0, 77) = 0
            play(0, 20) = 3
            heard(0, {-1 7 8 256 65536 65542 MIN MAX}) = NONE
            heard(0, {0 1 6}) = 3
            heard(7, {0..6}) = 0
            """);
        Runs.run("11: NONE also for another what, of no drum and of a drum that never played", """
            heard(NODRUM, {-1 0 6 7}) = NONE
            heard(7, {-1 7 MIN MAX}) = NONE
            """);
        Runs.run("11: 6 (not of the playing) where the HEAD is", """
            head(0, 300) = 0
            heard(0, 6) = 300
            heard(0, {0..5}) = 0
            """);
        Runs.run("11: of all that the drum played since the beginning: the same PLACES once more", """
            cut(0, 1, 2) = 2
            play(0, 20) = 2
            head(0, 0) = 2
            play(0, 20) = 2
            heard(0, {0 1}) = 4
            heard(0, 2) = 16
            heard(0, 6) = 2
            """);
        Runs.run("11: 3 the weights together: beyond an int, above and below", """
            cut(0, {1 2}, 20) = 20
            write(0, 1, {0..19}, 65535) = 0
            write(0, 2, {0..19}, 32767) = 0
            play(0, 20) = 20
            heard(0, 3) = 42947706900
            write(0, 2, {0..19}, -32768) = 0
            head(0, 0) = 20
            play(0, 20) = 20
            heard(0, 3) = -1310700
            head(0, 0) = 20
            play(0, 20) = 20
            heard(0, 3) = -42950328300
            """);
    }

    private static void heardHighestAndGreatest() {
        Runs.run("11: 0 for 4, 5 without a NOTE, though PLACES were played", """
            cut(0, {0 1 3}, 2) = 2
            write(0, {1 3}, {0 1}, 800) = 0
            play(0, 20) = 0
            heard(0, 1) = 2
            heard(0, {4 5}) = 0
            """);
        Runs.run("11: 4 the highest pitch: of pitches below 0 it is below 0", """
            cut(0, {1 4}, 3) = 3
            write(0, 4, 0, -100) = 0
            write(0, 4, 1, -1) = 0
            write(0, 4, 2, -2) = 0
            play(0, 1) = 1
            heard(0, 4) = -100
            play(0, 1) = 1
            heard(0, 4) = -1
            play(0, 1) = 1
            heard(0, 4) = -1
            """);
        Runs.run("11: 4 the highest pitch, 5 the greatest LEVEL: of NOTES alone", """
            cut(0, {0 1 3}, 2) = 2
            write(0, 0, 0, 1) = 0
            write(0, 1, 0, 10) = 0
            write(0, 1, 1, 20) = 0
            write(0, 3, 0, -8) = 0
            write(0, 3, 1, 8) = 0
            play(0, 20) = 1
            heard(0, 4) = 10
            heard(0, 5) = f-1
            """);
        Runs.run("11: 5 the 32 bits (as an int): of LEVELS below 0 an int below 0", """
            cut(0, 3, 3) = 3
            write(0, 3, 0, -8000000) = 0
            write(0, 3, 1, -1) = 0
            write(0, 3, 2, -2) = 0
            play(0, 1) = 1
            heard(0, 5) = f-1000000
            play(0, 1) = 1
            heard(0, 5) = -1107296256
            play(0, 1) = 1
            heard(0, 5) = f-0.125
            """);
        Runs.run("11: (the first of equal ones): minus zero before zero", """
            cut(0, 3, 2) = 2
            turn(0, 3, 0, -4) = 0
            play(0, 1) = 1
            heard(0, 5) = f-0.0
            play(0, 1) = 1
            heard(0, 5) = f-0.0
            """);
        Runs.run("11: (the first of equal ones): zero before minus zero", """
            cut(0, 3, 2) = 2
            turn(0, 3, 1, -4) = 0
            play(0, 20) = 2
            heard(0, 5) = f0.0
            """);
        Runs.run("11: 5 the greatest LEVEL: the greatest there can be, and 1 in a GAP", """
            cut(0, 3, 1) = 1
            cut(0, 4, 2) = 2
            write(0, 3, 0, 8000000) = 0
            play(0, 20) = 2
            heard(0, 5) = f1000000
            quiet(0) = 2
            head(0, 1) = 2
            play(0, 20) = 1
            heard(0, 5) = f1
            """);
        Runs.run("11: 5 the greatest LEVEL: the smallest above 0 is greater than 0", """
            cut(0, 3, 3) = 3
            write(0, 3, 1, 8) = 0
            74x turn(0, 3, 1, 1) = 0
            turn(0, 3, 1, 2) = 0
            read(0, 3, 1) = 1
            play(0, 20) = 3
            heard(0, 5) = 1
            """);
    }

    private static void quiet() {
        Runs.run("12: how many NOTES it was: none at first, none once more", """
            quiet({0 7}) = 0
            cut(0, 1, 3) = 3
            play(0, 20) = 3
            quiet(0) = 3
            quiet(0) = 0
            """);
        Runs.run("12: What was heard of a drum is forgotten (the HEAD stays)", """
            cut(0, {1 3}, 4) = 4
            write(0, {1 3}, {0..3}, 800) = 0
            play(0, 3) = 3
            quiet(0) = 3
            heard(0, {0..5}) = 0
            heard(0, 6) = 3
            play(0, 20) = 1
            heard(0, {0 1}) = 1
            """);
        Runs.run("12: NOTES, not PLACES: without a NOTE it is 0, and PLACES and GAPS are forgotten too", """
            cut(0, 0, 4) = 4
            play(0, 20) = 0
            heard(0, 1) = 4
            heard(0, 2) = 16
            quiet(0) = 0
            heard(0, {0..5}) = 0
            heard(0, 6) = 4
            """);
        Runs.run("12: forgotten: a first NOTE below 0 is the highest and greatest then", """
            cut(0, {1 3 4}, 2) = 2
            write(0, 1, 0, 500) = 0
            write(0, 3, 0, 500) = 0
            write(0, 3, 1, -8) = 0
            write(0, 4, 1, -9) = 0
            play(0, 1) = 1
            quiet(0) = 1
            play(0, 1) = 1
            heard(0, {3 4}) = -9
            heard(0, 5) = f-1
            """);
        Runs.run("12: of that drum alone, though the TRACK is the very same: the first, and the last", """
            cut(0, 1, 3) = 3
            share(0, {1 7}, 1) = 3
            play({0 1 7}, 20) = 3
            quiet(0) = 3
            heard(0, {0..5}) = 0
            heard({1 7}, {0 1 6}) = 3
            head(0, 1) = 3
            play(0, 20) = 2
            quiet(7) = 3
            heard(7, {0..5}) = 0
            heard(0, {0 1}) = 2
            heard(1, {0 1 6}) = 3
            """);
        Runs.run("12: NONE: no such drum", """
            cut({0 7}, 1, 3) = 3
            play({0 7}, 20) = 3
            quiet(NODRUM) = NONE
            heard({0 7}, 0) = 3
            """);
    }
}
