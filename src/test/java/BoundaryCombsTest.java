/** The boundary cases of promises 13 to 22, sentence by sentence: the combs, their teeth, and state(). */
public final class BoundaryCombsTest {
    public static void main(String[] args) {
        comb();
        combAnew();
        drop();
        about();
        loosen();
        hang();
        fit();
        cell();
        set();
        setLevels();
        twist();
        twistLevels();
        stateAfterEachCall();
        stateOfRefusals();
        stateOfValues();
        Runs.end();
    }

    private static void comb() {
        Runs.eachKind("13: SIZE: teeth are not 0 .. 40", """
            comb(0, kind, {0 1 39 40}, 1) = $3
            comb(0, kind, {-1 41 -40 256 65536 65576 MIN MAX}, 1) = SIZE
            about(0, 1) = 40
            comb(1, kind, {-1 41 MIN MAX}, 1) = SIZE
            about(1, 1) = NONE
            """);
        Runs.eachKind("13: SIZE: places are not 0 .. 40", """
            comb(0, kind, 1, {0 1 39 40}) = 1
            comb(0, kind, 1, {-1 41 -40 256 300 65536 65576 MIN MAX}) = SIZE
            about(0, 3) = 40
            comb(1, kind, 1, {-1 41 300 MIN MAX}) = SIZE
            about(1, 1) = NONE
            """);
        Runs.eachKind("13: SIZE: teeth or places: both, and places of no TEETH", """
            comb(2, kind, {-1 41 MIN MAX}, {-1 41 MIN MAX}) = SIZE
            comb(2, kind, 0, {-1 41 MIN MAX}) = SIZE
            comb(2, kind, {-1 41 MIN MAX}, 0) = SIZE
            comb(2, kind, 40, {-1 41}) = SIZE
            comb(2, kind, {-1 41}, 40) = SIZE
            about(2, 1) = NONE
            """);
        Runs.eachKind("13: NONE: no c (0 .. 3)", """
            comb({0 3}, kind, 1, 1) = 1
            comb(NOCOMB, kind, 1, 1) = NONE
            comb(NOCOMB, kind, 0, 0) = NONE
            comb(NOCOMB, kind, 41, 41) = NONE
            """);
        Runs.run("13: NONE: no KIND", """
            comb(0, 0, 1, 1) = 1
            comb(0, 4, 2, 1) = 2
            comb({0 1}, NOKIND, 1, 1) = NONE
            comb({0 1}, NOKIND, 41, 41) = NONE
            about(0, 0) = 4
            about(1, 0) = NONE
            """);
        Runs.eachKind("13: with so many TEETH, each of so many PLACES: none, and the most", """
            comb(0, kind, 0, 0) = 0
            about(0, {1..3}) = 0
            comb(0, kind, 0, 40) = 0
            about(0, {1..3}) = 0
            comb(0, kind, 40, 0) = 40
            about(0, 1) = 40
            about(0, {2 3}) = 0
            comb(0, kind, 40, 40) = 40
            about(0, 1) = 40
            about(0, 2) = 0
            about(0, 3) = 1600
            loosen(0, {0..39}) = 40
            """);
        Runs.eachKind("13: all 0: each tooth's first and last PLACE", """
            comb(3, kind, 40, 40) = 40
            cell(3, {0..39}, {0 39}) = 0
            """);
        Runs.eachKind("13: each a TRACK of its own", """
            comb(3, kind, 40, 2) = 40
            set(3, 0, 1, 1) = 0
            set(3, 39, 0, 1) = 0
            cell(3, {1..38}, {0 1}) = 0
            cell(3, 0, 0) = 0
            cell(3, 0, 1) = one
            cell(3, 39, 0) = one
            cell(3, 39, 1) = 0
            """);
    }

    private static void combAnew() {
        Runs.eachKind("13: in the place of what it was: all 0, none LACK, another KIND", """
            comb(0, kind, 3, 2) = 3
            set(0, {0..2}, {0 1}, 1) = 0
            loosen(0, 1) = 2
            comb(0, kind, 3, 2) = 3
            cell(0, {0..2}, {0 1}) = 0
            about(0, 2) = 0
            comb(0, 4, 1, 1) = 1
            about(0, 0) = 4
            comb(0, 0, 0, 0) = 0
            about(0, 0) = 0
            cell(0, 0, 0) = NONE
            """);
        Runs.eachKind("13: in the place of what it was: a refused one leaves it", """
            comb(0, kind, 2, 2) = 2
            set(0, 1, 1, 1) = 0
            loosen(0, 0) = 2
            comb(0, {0 4}, {41 -1}, 1) = SIZE
            comb(0, {0 4}, 1, {41 -1}) = SIZE
            comb(0, NOKIND, 1, 1) = NONE
            about(0, 0) = kind
            about(0, 2) = 1
            cell(0, 1, 1) = one
            """);
        Runs.eachKind("13: in the place of what it was: a drum that has a tooth keeps it", """
            comb(0, kind, 2, 2) = 2
            set(0, 1, 1, 1) = 0
            fit(0, 1, 6) = 2
            comb(0, kind, 2, 2) = 2
            read(6, kind, 1) = one
            cell(0, 1, 1) = 0
            set(0, 1, 0, 1) = 0
            read(6, kind, 0) = 0
            """);
    }

    private static void drop() {
        Runs.eachKind("14: There is no COMB c any more, for every call", """
            cut(0, kind, 2) = 2
            comb({0 1}, kind, 2, 2) = 2
            drop(0) = 2
            drop(0) = NONE
            about(0, {0..3}) = NONE
            loosen(0, 0) = NONE
            hang(0, 0, 0) = NONE
            fit(0, 0, 0) = NONE
            cell(0, 0, 0) = NONE
            set(0, 0, 0, 1) = NONE
            twist(0, 0, 0, 1) = NONE
            about(1, 1) = 2
            """);
        Runs.eachKind("14: how many TEETH it had: none, the most, and those that LACK too", """
            comb(0, kind, 0, 40) = 0
            drop(0) = 0
            drop(0) = NONE
            comb(3, kind, 40, 0) = 40
            loosen(3, {0..39}) = 0
            drop(3) = 40
            drop(3) = NONE
            """);
        Runs.run("14: NONE: none at first, and no c", """
            drop({0..3}) = NONE
            comb({0..3}, 1, 1, 1) = 1
            drop(NOCOMB) = NONE
            drop({0..3}) = 1
            """);
        Runs.eachKind("14: a drum that has a tooth keeps it, and a new COMB has new ones", """
            comb(0, kind, 1, 1) = 1
            set(0, 0, 0, 1) = 0
            fit(0, 0, 7) = 1
            drop(0) = 1
            read(7, kind, 0) = one
            comb(0, kind, 1, 1) = 1
            cell(0, 0, 0) = 0
            """);
    }

    private static void about() {
        Runs.run("15: NONE also for another what", """
            comb(0, 2, 3, 4) = 3
            about(0, {-1 4 5 256 65536 65539 MIN MAX}) = NONE
            about(0, 0) = 2
            about(0, 1) = 3
            about(0, 2) = 0
            about(0, 3) = 12
            about({1 -1 4}, {-1 4 0 3}) = NONE
            """);
        Runs.run("15: 0 its KIND: the first and the last", """
            comb(0, 0, 1, 1) = 1
            about(0, 0) = 0
            comb(0, 4, 1, 1) = 1
            about(0, 0) = 4
            """);
        Runs.eachKind("15: 2 how many of these LACK: none, all, and none again", """
            comb(1, kind, 40, 3) = 40
            about(1, 2) = 0
            loosen(1, {0..39}) = 3
            about(1, 1) = 40
            about(1, 2) = 40
            about(1, 3) = 0
            cut(0, kind, 300) = 300
            hang(1, {0..39}, 0) = 300
            about(1, 1) = 40
            about(1, 2) = 0
            about(1, 3) = 12000
            """);
        Runs.eachKind("15: 2 how many of these LACK: one of no PLACES does not", """
            comb(1, kind, 2, 0) = 2
            about(1, {2 3}) = 0
            loosen(1, 1) = 0
            about(1, 2) = 1
            """);
        Runs.eachKind("15: 3 how many PLACES all others have: the first and the last tooth too", """
            comb(1, kind, 3, 5) = 3
            cut(0, kind, 7) = 7
            hang(1, 0, 0) = 7
            about(1, 3) = 17
            loosen(1, 2) = 5
            about(1, 3) = 12
            hang(1, 2, 0) = 7
            about(1, 3) = 19
            loosen(1, 0) = 7
            about(1, 3) = 12
            """);
    }

    private static void loosen() {
        Runs.eachKind("16: LACKING", """
            comb(0, kind, 2, 3) = 2
            loosen(0, 1) = 3
            loosen(0, 1) = LACKING
            about(0, 2) = 1
            loosen(0, 0) = 3
            loosen(0, {0 1}) = LACKING
            about(0, 2) = 2
            """);
        Runs.eachKind("16: how many PLACES it had: none, the most of a COMB, the most of a drum", """
            comb(0, kind, 1, 0) = 1
            loosen(0, 0) = 0
            comb(0, kind, 1, 40) = 1
            loosen(0, 0) = 40
            cut(0, kind, 300) = 300
            hang(0, 0, 0) = 300
            loosen(0, 0) = 300
            """);
        Runs.eachKind("16: A tooth LACKS from now on, for every call", """
            comb(0, kind, 2, 3) = 2
            set(0, {0 1}, 0, 1) = 0
            cut(0, kind, 5) = 5
            loosen(0, 1) = 3
            cell(0, 1, 0) = LACKING
            set(0, 1, 0, 1) = LACKING
            twist(0, 1, 0, 1) = LACKING
            fit(0, 1, 0) = LACKING
            places(0, kind) = 5
            cell(0, 0, 0) = one
            hang(0, 1, 0) = 5
            cell(0, 1, 0) = 0
            """);
        Runs.eachKind("16: drums and other TEETH that have it keep it", """
            comb({0 1}, kind, 1, 2) = 1
            set(0, 0, 1, 1) = 0
            fit(0, 0, 3) = 2
            hang(1, 0, 3) = 2
            loosen(0, 0) = 2
            read(3, kind, 1) = one
            cell(1, 0, 1) = one
            """);
        Runs.eachKind("16: NONE: no such COMB, no such tooth", """
            loosen({0..3}, 0) = NONE
            comb(0, kind, 2, 3) = 2
            loosen(0, {-1 2 40 256 65536 MIN MAX}) = NONE
            loosen(NOCOMB, 0) = NONE
            about(0, 2) = 0
            """);
    }

    private static void hang() {
        Runs.eachKind("17: LACKING (of the drum): the tooth stays", """
            comb(0, kind, 1, 3) = 1
            set(0, 0, 2, 1) = 0
            hang(0, 0, {0 7}) = LACKING
            cell(0, 0, 2) = one
            about(0, 2) = 0
            """);
        Runs.eachKind("17: LACKING is of the drum alone: the tooth may lack, or both", """
            comb(0, kind, 1, 3) = 1
            loosen(0, 0) = 3
            hang(0, 0, 0) = LACKING
            about(0, 2) = 1
            cut(0, kind, 2) = 2
            hang(0, 0, 0) = 2
            about(0, 2) = 0
            """);
        Runs.eachKind("17: of the COMB's KIND: LACKING, though the drum has all others", """
            cut(0, {0..4}, 3) = 3
            strip(0, kind) = 3
            comb(0, kind, 1, 1) = 1
            hang(0, 0, 0) = LACKING
            """);
        Runs.eachKind("17: how many PLACES: none, the most", """
            cut(0, kind, 0) = 0
            cut(7, kind, 300) = 300
            comb(0, kind, 40, 40) = 40
            hang(0, {0 39}, 0) = 0
            about(0, 3) = 1520
            cell(0, {0 39}, 0) = BEYOND
            hang(0, {0 39}, 7) = 300
            about(0, 3) = 2120
            cell(0, {0 39}, 299) = 0
            """);
        Runs.eachKind("17: the very TRACK: hung twice, and hung on what it is already", """
            cut(0, kind, 2) = 2
            comb(0, kind, 2, 1) = 2
            hang(0, {0 1 0}, 0) = 2
            set(0, 0, 1, 1) = 0
            cell(0, 1, 1) = one
            read(0, kind, 1) = one
            hang(0, 0, 0) = 2
            cell(0, 0, 1) = one
            """);
        Runs.eachKind("17: the drum keeps it, and whoever had the tooth before keeps that", """
            comb(0, kind, 1, 3) = 1
            set(0, 0, 2, 1) = 0
            fit(0, 0, 1) = 3
            cut(0, kind, 2) = 2
            hang(0, 0, 0) = 2
            places(0, kind) = 2
            read(1, kind, 2) = one
            cell(0, 0, 2) = BEYOND
            """);
        Runs.eachKind("17: NONE: no such COMB, tooth, drum", """
            cut({0 7}, kind, 2) = 2
            hang({0..3}, 0, 0) = NONE
            comb(0, kind, 2, 3) = 2
            hang(NOCOMB, 0, 0) = NONE
            hang(0, {-1 2 256 65536 MIN MAX}, 0) = NONE
            hang(0, 0, NODRUM) = NONE
            about(0, 3) = 6
            """);
    }

    private static void fit() {
        Runs.eachKind("18: LACKING (of the tooth): the drum stays", """
            comb(0, kind, 1, 3) = 1
            loosen(0, 0) = 3
            cut(0, kind, 2) = 2
            write(0, kind, 1, 1) = 0
            fit(0, 0, {0 7}) = LACKING
            read(0, kind, 1) = one
            places(7, kind) = LACKING
            """);
        Runs.eachKind("18: LACKING is of the tooth alone: the drum may lack", """
            comb(0, kind, 1, 3) = 1
            fit(0, 0, {0 7}) = 3
            places({0 7}, kind) = 3
            """);
        Runs.eachKind("18: how many PLACES: none, the most of a COMB, the most of a drum", """
            comb(0, kind, 1, 0) = 1
            fit(0, 0, 1) = 0
            places(1, kind) = 0
            comb(0, kind, 40, 40) = 40
            fit(0, 39, 1) = 40
            places(1, kind) = 40
            cut(0, kind, 300) = 300
            hang(0, 39, 0) = 300
            fit(0, 39, 1) = 300
            read(1, kind, 299) = 0
            """);
        Runs.eachKind("18: the very tooth: on all drums at once, and on one that has it already", """
            comb(3, kind, 2, 2) = 2
            fit(3, 1, {0..7 0}) = 2
            write(7, kind, 1, 1) = 0
            cell(3, 1, 1) = one
            read({0..6}, kind, 1) = one
            cell(3, 0, 1) = 0
            """);
        Runs.eachKind("18: what the drum had stays with the others that have it", """
            cut(0, kind, 3) = 3
            write(0, kind, 2, 1) = 0
            share(0, 1, kind) = 3
            comb(0, kind, 1, 1) = 1
            fit(0, 0, 0) = 1
            read(1, kind, 2) = one
            read(0, kind, 2) = BEYOND
            """);
        Runs.run("18: of the COMB's KIND alone", """
            comb(0, 3, 1, 2) = 1
            fit(0, 0, 4) = 2
            places(4, 3) = 2
            places(4, {0 1 2 4}) = LACKING
            """);
        Runs.eachKind("18: NONE: no such COMB, tooth, drum", """
            fit({0..3}, 0, 0) = NONE
            comb(0, kind, 2, 3) = 2
            fit(NOCOMB, 0, 0) = NONE
            fit(0, {-1 2 256 65536 MIN MAX}, 0) = NONE
            fit(0, 0, NODRUM) = NONE
            places({0..7}, kind) = LACKING
            """);
    }

    private static void cell() {
        Runs.eachKind("19: as read(): LACKING", """
            comb(0, kind, 1, 3) = 1
            loosen(0, 0) = 3
            cell(0, 0, {0 1 2 3 -1}) = LACKING
            """);
        Runs.eachKind("19: as read(): BEYOND", """
            comb(0, kind, 2, 3) = 2
            set(0, 1, {0..2}, 1) = 0
            cell(0, 1, {0..2}) = one
            cell(0, 1, {-1 -3 3 4 256 258 65536 65538 MIN MAX}) = BEYOND
            comb(0, kind, 2, 0) = 2
            cell(0, 1, {-1 0 1 MIN MAX}) = BEYOND
            """);
        Runs.eachKind("19: as read(): NONE", """
            cell({0..3}, 0, 0) = NONE
            comb(0, kind, 2, 3) = 2
            set(0, {0 1}, 0, 1) = 0
            cell(NOCOMB, 0, 0) = NONE
            cell(0, {-1 2 256 65536 MIN MAX}, 0) = NONE
            """);
        Runs.run("19: as read(): of LEVELS the 32 bits", """
            comb(0, 3, 1, 3) = 1
            set(0, 0, 0, -8) = 0
            cell(0, 0, 0) = -1082130432
            set(0, 0, 1, 8000000) = 0
            cell(0, 0, 1) = f1000000
            twist(0, 0, 2, -1) = 0
            cell(0, 0, 2) = MIN           # minus zero
            """);
    }

    private static void set() {
        Runs.run("20: as write(): PINS 1, if v is not 0", """
            comb(0, 0, 1, 3) = 1
            set(0, 0, 1, {0 1}) = 0
            cell(0, 0, 1) = 1
            set(0, 0, 1, 0) = 0
            cell(0, 0, 1) = 0
            set(0, 0, 1, MIN) = 0
            cell(0, 0, 1) = 1
            set(0, 0, 1, 0) = 0
            set(0, 0, 1, 65536) = 0
            cell(0, 0, 1) = 1
            cell(0, 0, {0 2}) = 0
            """);
        Runs.run("20: as write(): SIGNS the lowest 16 bits", """
            comb(0, 1, 1, 3) = 1
            set(0, 0, 1, 65535) = 0
            cell(0, 0, 1) = 65535
            set(0, 0, 1, 65536) = 0
            cell(0, 0, 1) = 0
            set(0, 0, 1, -1) = 0
            cell(0, 0, 1) = 65535
            set(0, 0, 1, MIN) = 0
            cell(0, 0, {0..2}) = 0
            """);
        Runs.run("20: as write(): LENGTHS the lowest 16 bits", """
            comb(0, 2, 1, 3) = 1
            set(0, 0, 1, 32767) = 0
            cell(0, 0, 1) = 32767
            set(0, 0, 1, 32768) = 0
            cell(0, 0, 1) = -32768
            set(0, 0, 1, -32769) = 0
            cell(0, 0, 1) = 32767
            set(0, 0, 1, 65535) = 0
            cell(0, 0, 1) = -1
            cell(0, 0, {0 2}) = 0
            """);
        Runs.run("20: as write(): BENDS the lowest 8 bits", """
            comb(0, 4, 1, 3) = 1
            set(0, 0, 1, 127) = 0
            cell(0, 0, 1) = 127
            set(0, 0, 1, 128) = 0
            cell(0, 0, 1) = -128
            set(0, 0, 1, -129) = 0
            cell(0, 0, 1) = 127
            set(0, 0, 1, 255) = 0
            cell(0, 0, 1) = -1
            set(0, 0, 1, 256) = 0
            cell(0, 0, {0..2}) = 0
            """);
        Runs.eachKind("20: as write(): LACKING, BEYOND, NONE", """
            set({0..3}, 0, 0, 1) = NONE
            comb(0, kind, 2, 3) = 2
            set(0, {0 1}, {0..2}, 1) = 0
            set(0, 1, {-1 3 4 256 65536 MIN MAX}, 0) = BEYOND
            set(NOCOMB, 0, 0, 0) = NONE
            set(0, {-1 2 256 65536 MIN MAX}, 0, 0) = NONE
            cell(0, {0 1}, {0..2}) = one
            loosen(0, 1) = 3
            set(0, 1, {0..2}, 0) = LACKING
            cell(0, 0, {0..2}) = one
            """);
    }

    private static void setLevels() {
        Runs.run("20: as write(): BOUND: of LEVELS v is not -8000000 .. 8000000", """
            comb(3, 3, 2, 2) = 2
            set(3, 1, 1, 8000000) = 0
            set(3, 1, 1, {8000001 16777216 MAX}) = BOUND
            cell(3, 1, 1) = f1000000
            set(3, 1, 1, -8000000) = 0
            set(3, 1, 1, {-8000001 -16777216 MIN}) = BOUND
            cell(3, 1, 1) = f-1000000
            cell(3, 1, 0) = 0
            cell(3, 0, {0 1}) = 0
            """);
    }

    private static void twist() {
        Runs.run("21: as turn(): PINS, if v is odd, the other one of both", """
            comb(0, 0, 1, 3) = 1
            twist(0, 0, 1, {0 2 -2 65536 MIN}) = 0
            cell(0, 0, 1) = 0
            twist(0, 0, 1, -1) = 0
            cell(0, 0, 1) = 1
            twist(0, 0, 1, MAX) = 0
            cell(0, 0, {0..2}) = 0
            """);
        Runs.run("21: as turn(): SIGNS v more, the lowest 16 bits", """
            comb(0, 1, 1, 3) = 1
            twist(0, 0, 1, -1) = 0
            cell(0, 0, 1) = 65535
            twist(0, 0, 1, 2) = 0
            cell(0, 0, 1) = 1
            twist(0, 0, 1, MIN) = 0
            cell(0, 0, 1) = 1
            twist(0, 0, 1, MAX) = 0
            cell(0, 0, {0..2}) = 0
            """);
        Runs.run("21: as turn(): LENGTHS v times as much, the lowest 16 bits", """
            comb(0, 2, 1, 3) = 1
            set(0, 0, 1, 32767) = 0
            twist(0, 0, 1, 2) = 0
            cell(0, 0, 1) = -2
            twist(0, 0, 1, 16384) = 0
            cell(0, 0, 1) = -32768
            twist(0, 0, 1, -1) = 0
            cell(0, 0, 1) = -32768
            twist(0, 0, 1, 65537) = 0
            cell(0, 0, 1) = -32768
            twist(0, 0, 1, 2) = 0
            cell(0, 0, {0..2}) = 0
            """);
        Runs.run("21: as turn(): BENDS v less, the lowest 8 bits", """
            comb(0, 4, 1, 3) = 1
            twist(0, 0, 1, 128) = 0
            cell(0, 0, 1) = -128
            twist(0, 0, 1, 1) = 0
            cell(0, 0, 1) = 127
            twist(0, 0, 1, -1) = 0
            cell(0, 0, 1) = -128
            twist(0, 0, 1, 256) = 0
            cell(0, 0, 1) = -128
            cell(0, 0, {0 2}) = 0
            """);
        Runs.eachKind("21: as turn(): LACKING, BEYOND, NONE", """
            twist({0..3}, 0, 0, 1) = NONE
            comb(0, kind, 2, 3) = 2
            set(0, {0 1}, {0..2}, 1) = 0
            twist(0, 1, {-1 3 4 256 65536 MIN MAX}, 3) = BEYOND
            twist(NOCOMB, 0, 0, 3) = NONE
            twist(0, {-1 2 256 65536 MIN MAX}, 0, 3) = NONE
            cell(0, {0 1}, {0..2}) = one
            loosen(0, 1) = 3
            twist(0, 1, {0..2}, 3) = LACKING
            cell(0, 0, {0..2}) = one
            """);
    }

    private static void twistLevels() {
        Runs.run("21: as turn(): BOUND: of LEVELS v is not -4000 .. 4000", """
            comb(3, 3, 2, 2) = 2
            set(3, 1, 1, 8) = 0
            twist(3, 1, 1, {-4001 4001 65536 MIN MAX}) = BOUND
            cell(3, 1, 1) = f1
            twist(3, 1, 1, 4000) = 0
            cell(3, 1, 1) = f1000
            set(3, 1, 1, 8) = 0
            twist(3, 1, 1, -4000) = 0
            cell(3, 1, 1) = f-1000
            twist(3, 1, 0, {-4001 4001}) = BOUND
            cell(3, 1, 0) = 0
            """);
        Runs.run("21: as turn(): BOUND: it would be below -1000000 or above 1000000", """
            comb(3, 3, 2, 2) = 2
            set(3, 1, 1, 8000000) = 0
            twist(3, 1, 1, {5 -5}) = BOUND
            cell(3, 1, 1) = f1000000
            twist(3, 1, 1, -4) = 0
            cell(3, 1, 1) = f-1000000
            twist(3, 1, 1, {5 -5}) = BOUND
            cell(3, 1, 1) = f-1000000
            set(3, 1, 1, 57041) = 0
            twist(3, 1, 1, 561) = 0
            cell(3, 1, 1) = f1000000
            set(3, 1, 1, 146789) = 0
            twist(3, 1, 1, {218 -218}) = BOUND
            cell(3, 1, 1) = f18348.625
            """);
    }

    // A refusal before each call that is granted: Runs asks for state() 0 behind it.
    private static void stateAfterEachCall() {
        String[] calls = {"cut(0, 1, 3) = 3", "places(0, 1) = 3", "write(0, 1, 0, 5) = 0", "read(0, 1, 0) = 5",
            "turn(0, 1, 0, 1) = 0", "share(0, 1, 1) = 3", "head(0, 1) = 0", "play(0, 1) = 1", "heard(0, 0) = 1",
            "quiet(0) = 1", "comb(0, 1, 2, 2) = 2", "about(0, 2) = 0", "set(0, 0, 0, 7) = 0", "cell(0, 0, 0) = 7",
            "twist(0, 0, 0, 1) = 0", "hang(0, 1, 0) = 3", "fit(0, 0, 5) = 2", "loosen(0, 0) = 2", "drop(0) = 2",
            "strip(0, 1) = 3"};
        for (String refusal : new String[] {"quiet(8) = NONE", "strip(7, 0) = LACKING", "read(6, 0, 0) = BEYOND",
            "play(0, 21) = SIZE", "write(6, 3, 0, 8000001) = BOUND"}) {
            StringBuilder rows = new StringBuilder("cut(6, 0, 0) = 0\ncut(6, 3, 1) = 1\n");
            for (String call : calls) {
                rows.append(refusal).append('\n').append(call).append('\n');
            }
            Runs.run("22: else 0: behind " + refusal + " each call that is granted", rows.toString());
        }
    }

    private static void stateOfRefusals() {
        Runs.run("22: before any call, 0", """
            state() = 0
            state() = 0
            """);
        Runs.run("22: the latest call but state(): asked again it tells the same", """
            strip(0, 0) = LACKING
            state() = LACKING
            state() = LACKING
            quiet(0) = 0
            state() = 0
            play(0, 21) = SIZE
            state() = SIZE
            state() = SIZE
            quiet(8) = NONE
            state() = NONE
            cut(0, 3, 1) = 1
            state() = 0
            write(0, 3, 1, 1) = BEYOND
            state() = BEYOND
            turn(0, 3, 0, 4001) = BOUND
            state() = BOUND
            state() = BOUND
            """);
        Runs.run("22: each call tells each of its refusals", """
            cut(8, 0, 1) = NONE
            cut(0, 0, 301) = SIZE
            strip(0, 5) = NONE
            strip(0, 0) = LACKING
            share(0, 8, 0) = NONE
            share(0, 1, 0) = LACKING
            places(0, 5) = NONE
            places(0, 0) = LACKING
            read(0, 5, 0) = NONE
            read(0, 3, 0) = LACKING
            write(0, 5, 0, 0) = NONE
            write(0, 3, 0, 0) = LACKING
            turn(0, 5, 0, 0) = NONE
            turn(0, 3, 0, 0) = LACKING
            cut(0, 3, 1) = 1
            read(0, 3, 1) = BEYOND
            write(0, 3, 1, 0) = BEYOND
            write(0, 3, 0, 8000001) = BOUND
            turn(0, 3, 1, 0) = BEYOND
            turn(0, 3, 0, 4001) = BOUND
            head(8, 0) = NONE
            head(0, 301) = SIZE
            play(8, 0) = NONE
            play(0, 21) = SIZE
            heard(8, 0) = NONE
            heard(0, 7) = NONE
            quiet(8) = NONE
            """);
        Runs.run("22: each call of COMBS tells each of its refusals", """
            comb(4, 0, 0, 0) = NONE
            comb(0, 5, 0, 0) = NONE
            comb(0, 0, 41, 0) = SIZE
            comb(0, 0, 0, 41) = SIZE
            drop(0) = NONE
            about(0, 0) = NONE
            comb(0, 3, 2, 1) = 2
            about(0, 4) = NONE
            loosen(0, 2) = NONE
            loosen(0, 1) = 1
            loosen(0, 1) = LACKING
            hang(0, 2, 0) = NONE
            hang(0, 1, 0) = LACKING
            fit(0, 0, 8) = NONE
            fit(0, 1, 0) = LACKING
            cell(0, 2, 0) = NONE
            cell(0, 1, 0) = LACKING
            cell(0, 0, 1) = BEYOND
            set(0, 2, 0, 0) = NONE
            set(0, 1, 0, 0) = LACKING
            set(0, 0, 1, 0) = BEYOND
            set(0, 0, 0, 8000001) = BOUND
            twist(0, 2, 0, 0) = NONE
            twist(0, 1, 0, 0) = LACKING
            twist(0, 0, 1, 0) = BEYOND
            twist(0, 0, 0, 4001) = BOUND
            """);
    }

    private static void stateOfValues() {
        for (int value = -1; value >= -5; value--) {
            Runs.run("22: if that is a refusal: a value of " + value + " is none", """
                cut(0, {1 2 4}, 1) = 1
                comb(0, 2, 1, 1) = 1
                comb(1, 4, 1, 1) = 1
                write(0, {2 4}, 0, VALUE) = 0
                set({0 1}, 0, 0, VALUE) = 0
                strip(7, 0) = LACKING
                read(0, {2 4}, 0) = VALUE
                strip(7, 0) = LACKING
                cell({0 1}, 0, 0) = VALUE
                write(0, 2, 0, 1) = 0
                play(0, 1) = 1
                strip(7, 0) = LACKING
                heard(0, {3 4}) = VALUE
                """.replace("VALUE", "" + value));
        }
        Runs.run("22: if that is a refusal: a 0 of read(), cell(), heard() is none where it is the value", """
            cut(0, 1, 1) = 1
            comb(0, 1, 1, 1) = 1
            read(0, 1, 1) = BEYOND
            read(0, 1, 0) = 0
            cell(0, 0, 1) = BEYOND
            cell(0, 0, 0) = 0
            heard(0, 7) = NONE
            heard(0, 0) = 0
            """);
    }
}
