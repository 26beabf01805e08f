/** The boundary cases under "Terms": what there is and is not, and which refusal comes first. */
public final class BoundaryTermsTest {
    public static void main(String[] args) {
        drums();
        kinds();
        combs();
        teeth();
        placesOfDrums();
        placesOfTeeth();
        rangesOfValues();
        theVerySameTrack();
        firstRefusalOfDrums();
        firstRefusalOfCombs();
        answer0WhenRefused();
        fiveHundredAndTwelveCalls();
        Runs.end();
    }

    private static void drums() {
        Runs.eachKind("DRUMS 0 .. 7: the first and the last are there", """
            cut({0 7}, kind, 2) = 2
            places({0 7}, kind) = 2
            write({0 7}, kind, 1, 1) = 0
            read({0 7}, kind, 1) = one
            turn({0 7}, kind, 0, 2) = 0
            head({0 7}, 1) = 0
            play({0 7}, 1) = 1
            heard({0 7}, 6) = 2
            quiet({0 7}) = 1
            share(0, 7, kind) = 2
            share(7, 0, kind) = 2
            comb(0, kind, 1, 2) = 1
            hang(0, 0, {0 7}) = 2
            fit(0, 0, {0 7}) = 2
            strip({0 7}, kind) = 2
            """);
        Runs.run("DRUMS 0 .. 7: eight of them, each with tracks, a head and a hearing of its own", """
            cut({0..7}, 1, 9) = 9
            write(0, 1, 0, 100) = 0
            write(7, 1, 0, 107) = 0
            head({1..6}, 3) = 0
            play({0..7}, 2) = 2
            heard(0, 4) = 100
            heard({1..6}, 4) = 0
            heard(7, 4) = 107
            heard({0 7}, 6) = 2
            heard({1..6}, 6) = 5
            """);
        Runs.eachKind("NONE: there is no such drum to cut, strip, share or read", """
            cut({0..7}, kind, 2) = 2
            comb(0, kind, 2, 3) = 2
            cut(NODRUM, kind, 1) = NONE
            strip(NODRUM, kind) = NONE
            share(NODRUM, 0, kind) = NONE
            share(0, NODRUM, kind) = NONE
            share(NODRUM, NODRUM, kind) = NONE
            places(NODRUM, kind) = NONE
            read(NODRUM, kind, 0) = NONE
            """);
        Runs.eachKind("NONE: there is no such drum to write, play, hear, hang or fit", """
            cut({0..7}, kind, 2) = 2
            write({0..7}, kind, 0, 1) = 0
            play({0..7}, 1) = 1
            comb(0, kind, 2, 3) = 2
            loosen(0, 1) = 3
            write(NODRUM, kind, 0, 1) = NONE
            turn(NODRUM, kind, 0, 1) = NONE
            head(NODRUM, 0) = NONE
            play(NODRUM, 1) = NONE
            heard(NODRUM, {0 3 6}) = NONE
            quiet(NODRUM) = NONE
            hang(0, 0, NODRUM) = NONE
            fit(0, 0, NODRUM) = NONE
            """);
    }

    private static void kinds() {
        Runs.run("five TRACKS each, numbered by their KIND: the first and the last are there", """
            cut(0, {0 4}, 2) = 2
            write(0, {0 4}, 1, 1) = 0
            turn(0, {0 4}, 0, 2) = 0
            read(0, {0 4}, 1) = 1
            share(0, 1, {0 4}) = 2
            places(1, {0 4}) = 2
            comb(0, {0 4}, 1, 1) = 1
            about(0, 0) = 4
            strip(0, {0 4}) = 2
            """);
        Runs.run("five TRACKS each: each KIND is a track of its own", """
            cut(3, {0..4}, 5) = 5
            write(3, 2, 1, 77) = 0
            read(3, {0 1 3 4}, 1) = 0
            cut(3, 4, 9) = 9
            places(3, {0..3}) = 5
            strip(3, 1) = 5
            places(3, {0 2 3}) = 5
            places(3, 1) = LACKING
            places(3, 4) = 9
            """);
        Runs.run("NONE: there is no such KIND", """
            cut({0 1}, {0..4}, 3) = 3
            comb(0, 1, 2, 2) = 2
            cut(0, NOKIND, 1) = NONE
            strip(0, NOKIND) = NONE
            share(0, 1, NOKIND) = NONE
            places(0, NOKIND) = NONE
            read(0, NOKIND, 0) = NONE
            write(0, NOKIND, 0, 1) = NONE
            turn(0, NOKIND, 0, 1) = NONE
            comb({0 3}, NOKIND, 1, 1) = NONE
            """);
    }

    private static void combs() {
        Runs.eachKind("COMBS 0 .. 3: the first and the last are there", """
            cut(0, kind, 5) = 5
            comb({0 3}, kind, 2, 4) = 2
            about({0 3}, 3) = 8
            set({0 3}, 1, 3, 1) = 0
            cell({0 3}, 1, 3) = one
            twist({0 3}, 1, 0, 2) = 0
            hang({0 3}, 0, 0) = 5
            fit({0 3}, 1, 0) = 4
            loosen({0 3}, 1) = 4
            drop({0 3}) = 2
            """);
        Runs.run("COMBS 0 .. 3: four of them, each with a KIND and teeth of its own", """
            comb(0, 1, 2, 3) = 2
            comb(1, 2, 3, 4) = 3
            comb(2, 4, 4, 5) = 4
            comb(3, 0, 5, 6) = 5
            set({0 3}, 0, 0, 40000) = 0
            cell(0, 0, 0) = 40000
            cell({1 2}, 0, 0) = 0
            cell(3, 0, 0) = 1
            drop(1) = 3
            about(0, 3) = 6
            about(1, 3) = NONE
            about(2, 3) = 20
            about(3, 3) = 30
            """);
        Runs.eachKind("NONE: there is no such COMB", """
            cut(0, kind, 5) = 5
            comb({0..3}, kind, 2, 3) = 2
            comb(NOCOMB, kind, 1, 1) = NONE
            drop(NOCOMB) = NONE
            about(NOCOMB, {0..3}) = NONE
            loosen(NOCOMB, 0) = NONE
            hang(NOCOMB, 0, 0) = NONE
            fit(NOCOMB, 0, 0) = NONE
            cell(NOCOMB, 0, 0) = NONE
            set(NOCOMB, 0, 0, 1) = NONE
            twist(NOCOMB, 0, 0, 1) = NONE
            """);
        Runs.eachKind("COMBS 0 .. 3, none at first", """
            cut(0, kind, 5) = 5
            drop({0..3}) = NONE
            about({0..3}, {0..3}) = NONE
            loosen({0..3}, 0) = NONE
            hang({0..3}, 0, 0) = NONE
            fit({0..3}, 0, 0) = NONE
            cell({0..3}, 0, 0) = NONE
            set({0..3}, 0, 0, 1) = NONE
            twist({0..3}, 0, 0, 1) = NONE
            """);
    }

    private static void teeth() {
        Runs.eachKind("0 .. 40 TEETH: of 40 the first and the last are there, no other is", """
            cut(0, kind, 5) = 5
            comb(0, kind, 40, 1) = 40
            twist(0, {0 39}, 0, 2) = 0
            set(0, {0 39}, 0, 1) = 0
            cell(0, {0 39}, 0) = one
            cell(0, {1..38}, 0) = 0
            fit(0, {0 39}, {1 7}) = 1
            hang(0, {0 39}, 0) = 5
            loosen(0, {0 39}) = 5
            cell(0, {-1 40 256 65575 MIN MAX}, 0) = NONE
            set(0, {-1 40 256 65575 MIN MAX}, 0, 1) = NONE
            twist(0, {-1 40 256 65575 MIN MAX}, 0, 1) = NONE
            loosen(0, {-1 40 256 65575 MIN MAX}) = NONE
            hang(0, {-1 40 256 65575 MIN MAX}, 0) = NONE
            fit(0, {-1 40 256 65575 MIN MAX}, 0) = NONE
            """);
        Runs.eachKind("0 .. 40 TEETH: of one tooth, tooth 0 alone is there", """
            cut(0, kind, 5) = 5
            comb(0, kind, 1, 1) = 1
            set(0, {1 -1}, 0, 1) = NONE
            twist(0, {1 -1}, 0, 1) = NONE
            cell(0, {1 -1}, 0) = NONE
            loosen(0, {1 -1}) = NONE
            hang(0, {1 -1}, 0) = NONE
            fit(0, {1 -1}, 0) = NONE
            set(0, 0, 0, 1) = 0
            cell(0, 0, 0) = one
            """);
        Runs.eachKind("0 .. 40 TEETH: a COMB of none is there, and has no tooth", """
            cut(0, kind, 5) = 5
            comb(0, kind, 0, 1) = 0
            about(0, 0) = kind
            about(0, {1..3}) = 0
            cell(0, {0 -1 1}, 0) = NONE
            set(0, {0 -1 1}, 0, 1) = NONE
            twist(0, {0 -1 1}, 0, 1) = NONE
            loosen(0, {0 -1 1}) = NONE
            hang(0, {0 -1 1}, 0) = NONE
            fit(0, {0 -1 1}, 0) = NONE
            drop(0) = 0
            """);
        Runs.run("no tooth behind the last, though another COMB has so many", """
            comb(0, 1, 40, 2) = 40
            comb(1, 1, 3, 2) = 3
            cell(1, 3, 0) = NONE
            set(1, 3, 0, 5) = NONE
            loosen(1, 39) = NONE
            comb(0, 1, 2, 2) = 2          # fewer than it had
            cell(0, {2 39}, 0) = NONE
            set(0, {2 39}, 0, 5) = NONE
            """);
    }

    private static void placesOfDrums() {
        Runs.eachKind("0 .. 300 PLACES, numbered from 0 on: of 300 the first and the last are there, no other is", """
            cut(0, kind, 300) = 300
            turn(0, kind, {0 299}, 2) = 0
            write(0, kind, {0 299}, 1) = 0
            read(0, kind, {0 299}) = one
            read(0, kind, {1 255 256 298}) = 0
            read(0, kind, {-1 300 301 65536 65835 MIN MAX}) = BEYOND
            write(0, kind, {-1 300 301 65536 65835 MIN MAX}, 0) = BEYOND
            turn(0, kind, {-1 300 301 65536 65835 MIN MAX}, 0) = BEYOND
            """);
        Runs.eachKind("0 .. 300 PLACES: of one place, PLACE 0 alone is there", """
            cut(0, kind, 1) = 1
            write(0, kind, 0, 1) = 0
            read(0, kind, {-1 1}) = BEYOND
            write(0, kind, {-1 1}, 0) = BEYOND
            turn(0, kind, {-1 1}, 0) = BEYOND
            read(0, kind, 0) = one
            """);
        Runs.eachKind("0 .. 300 PLACES: a TRACK of none does not LACK, and every PLACE is BEYOND it", """
            cut(0, kind, 0) = 0
            places(0, kind) = 0
            read(0, kind, {-1 0 1 300 MIN MAX}) = BEYOND
            write(0, kind, {-1 0 1 300 MIN MAX}, 1) = BEYOND
            turn(0, kind, {-1 0 1 300 MIN MAX}, 1) = BEYOND
            share(0, 1, kind) = 0
            strip(0, kind) = 0
            places(0, kind) = LACKING
            places(1, kind) = 0
            """);
        Runs.eachKind("A TRACK LACKS (at first)", """
            places({0..7}, kind) = LACKING
            strip({0..7}, kind) = LACKING
            read({0..7}, kind, 0) = LACKING
            write({0..7}, kind, 0, 1) = LACKING
            turn({0..7}, kind, 0, 1) = LACKING
            share({0..7}, 3, kind) = LACKING
            comb(0, kind, 1, 1) = 1
            hang(0, 0, {0..7}) = LACKING
            """);
        Runs.eachKind("-3 BEYOND: it has no such PLACE, though another TRACK has", """
            cut(0, {0..4}, 9) = 9
            cut(1, kind, 9) = 9
            cut(0, kind, 4) = 4
            read(0, kind, {4 8}) = BEYOND
            write(0, kind, {4 8}, 1) = BEYOND
            turn(0, kind, {4 8}, 1) = BEYOND
            write(1, kind, 8, 1) = 0
            """);
    }

    private static void placesOfTeeth() {
        Runs.eachKind("PLACES of a tooth: of 40 the first and the last are there, no other is", """
            comb(2, kind, 2, 40) = 2
            twist(2, 1, {0 39}, 2) = 0
            set(2, 1, {0 39}, 1) = 0
            cell(2, 1, {0 39}) = one
            cell(2, 1, {1..38}) = 0
            cell(2, 0, {0 39}) = 0
            cell(2, 1, {-1 40 256 65575 MIN MAX}) = BEYOND
            set(2, 1, {-1 40 256 65575 MIN MAX}, 0) = BEYOND
            twist(2, 1, {-1 40 256 65575 MIN MAX}, 0) = BEYOND
            """);
        Runs.eachKind("PLACES of a tooth: of one, PLACE 0 alone is there", """
            comb(2, kind, 2, 1) = 2
            set(2, 1, 0, 1) = 0
            cell(2, 1, {-1 1}) = BEYOND
            set(2, 1, {-1 1}, 0) = BEYOND
            twist(2, 1, {-1 1}, 0) = BEYOND
            cell(2, 1, 0) = one
            """);
        Runs.eachKind("PLACES of a tooth: one of none does not LACK, and every PLACE is BEYOND it", """
            comb(2, kind, 2, 0) = 2
            about(2, {2 3}) = 0
            cell(2, 1, {-1 0 1 40 MIN MAX}) = BEYOND
            set(2, 1, {-1 0 1 40 MIN MAX}, 1) = BEYOND
            twist(2, 1, {-1 0 1 40 MIN MAX}, 1) = BEYOND
            fit(2, 1, 0) = 0
            places(0, kind) = 0
            loosen(2, 1) = 0
            about(2, 2) = 1
            """);
        Runs.eachKind("PLACES of a tooth that was hung: all 300 of the drum's", """
            cut(7, kind, 300) = 300
            comb(2, kind, 40, 40) = 40
            hang(2, 39, 7) = 300
            twist(2, 39, {0 299}, 2) = 0
            set(2, 39, {40 299}, 1) = 0
            cell(2, 39, {40 299}) = one
            read(7, kind, {40 299}) = one
            cell(2, 39, {-1 300 MIN MAX}) = BEYOND
            set(2, 39, {-1 300 MIN MAX}, 1) = BEYOND
            twist(2, 39, {-1 300 MIN MAX}, 1) = BEYOND
            cell(2, 38, 40) = BEYOND
            """);
    }

    private static void rangesOfValues() {
        Runs.run("PINS (0, 1): there is no other", """
            cut(0, 0, 1) = 1
            write(0, 0, 0, {1 2 3 -1 256 65536 MIN MAX}) = 0
            read(0, 0, 0) = 1
            write(0, 0, 0, 0) = 0
            read(0, 0, 0) = 0
            turn(0, 0, 0, -1) = 0
            read(0, 0, 0) = 1
            turn(0, 0, 0, 1) = 0
            read(0, 0, 0) = 0
            """);
        Runs.run("SIGNS (0 .. 65535): the least and the greatest, and none below or above", """
            cut(0, 1, 3) = 3
            write(0, 1, 0, 65535) = 0
            read(0, 1, 0) = 65535
            write(0, 1, 1, 32768) = 0
            read(0, 1, 1) = 32768
            turn(0, 1, 0, 1) = 0
            read(0, 1, 0) = 0
            turn(0, 1, 0, -1) = 0
            read(0, 1, 0) = 65535
            read(0, 1, 2) = 0
            """);
        Runs.run("LENGTHS (-32768 .. 32767): the least and the greatest, and none below or above", """
            cut(0, 2, 3) = 3
            write(0, 2, 0, 32767) = 0
            read(0, 2, 0) = 32767
            write(0, 2, 1, -32768) = 0
            read(0, 2, 1) = -32768
            write(0, 2, 0, 32768) = 0
            read(0, 2, 0) = -32768
            write(0, 2, 1, -32769) = 0
            read(0, 2, 1) = 32767
            read(0, 2, 2) = 0
            """);
        Runs.run("LEVELS (numbers of 32 bits): the least and the greatest that can be written", """
            cut(0, 3, 3) = 3
            write(0, 3, 0, 8000000) = 0
            read(0, 3, 0) = f1000000
            write(0, 3, 1, -8000000) = 0
            read(0, 3, 1) = f-1000000
            read(0, 3, 2) = 0
            """);
        Runs.run("BENDS (-128 .. 127): the least and the greatest, and none below or above", """
            cut(0, 4, 3) = 3
            write(0, 4, 0, 127) = 0
            read(0, 4, 0) = 127
            write(0, 4, 1, -128) = 0
            read(0, 4, 1) = -128
            turn(0, 4, 0, -1) = 0
            read(0, 4, 0) = -128
            turn(0, 4, 1, 1) = 0
            read(0, 4, 1) = 127
            read(0, 4, 2) = 0
            """);
    }

    private static void theVerySameTrack() {
        Runs.eachKind("Drums and TEETH may have the very same TRACK: all of them at once", """
            cut(0, kind, 300) = 300
            share(0, {1..7}, kind) = 300
            comb({0..3}, kind, 2, 1) = 2
            hang({0..3}, {0 1}, 7) = 300
            write(3, kind, 299, 1) = 0
            read({0..7}, kind, 299) = one
            cell({0..3}, {0 1}, 299) = one
            set(2, 1, 299, 0) = 0
            read({0..7}, kind, 299) = 0
            cell({0..3}, {0 1}, 299) = 0
            set(0, 0, 0, 1) = 0
            strip({0..7}, kind) = 300
            drop({0..2}) = 2
            loosen(3, 0) = 300
            cell(3, 1, 0) = one
            fit(3, 1, 4) = 300
            read(4, kind, 0) = one
            """);
        Runs.eachKind("the very same TRACK: cutting one anew parts it from the others alone", """
            cut(0, kind, 2) = 2
            share(0, {1 2}, kind) = 2
            cut(1, kind, 2) = 2
            write(1, kind, 0, 1) = 0
            read({0 2}, kind, 0) = 0
            write(0, kind, 1, 1) = 0
            read(1, kind, 1) = 0
            read(2, kind, 1) = one
            """);
    }

    private static void firstRefusalOfDrums() {
        Runs.eachKind("the first of these that holds: NONE before LACKING, BEYOND, SIZE, BOUND", """
            cut(0, kind, 2) = 2
            cut(NODRUM, kind, {-1 301}) = NONE
            cut(0, NOKIND, {-1 301}) = NONE
            share(1, NODRUM, kind) = NONE
            head(NODRUM, {-1 301}) = NONE
            play(NODRUM, {-1 21}) = NONE
            read(8, kind, 2) = NONE
            read(0, 5, 2) = NONE
            write({-1 8}, kind, {0 2 -1}, {1 8000001}) = NONE
            write(0, {-1 5}, {0 2 -1}, {1 8000001}) = NONE
            turn({-1 8}, kind, {0 2 -1}, {1 4001}) = NONE
            turn(0, {-1 5}, {0 2 -1}, {1 4001}) = NONE
            strip(1, {-1 5}) = NONE
            places(1, {-1 5}) = NONE
            """);
        Runs.eachKind("the first of these that holds: LACKING before BEYOND and BOUND", """
            read(0, kind, {-1 0 300 MIN MAX}) = LACKING
            write(0, kind, {-1 0 300 MIN MAX}, {0 8000001 MIN}) = LACKING
            turn(0, kind, {-1 0 300 MIN MAX}, {0 4001 MIN}) = LACKING
            """);
        Runs.run("the first of these that holds: BEYOND before BOUND", """
            cut(0, 3, 2) = 2
            write(0, 3, {-1 2 MIN MAX}, {-8000001 8000001 MIN MAX}) = BEYOND
            turn(0, 3, {-1 2 MIN MAX}, {-4001 4001 MIN MAX}) = BEYOND
            write(0, 3, 1, {-8000001 8000001 MIN MAX}) = BOUND
            turn(0, 3, 1, {-4001 4001 MIN MAX}) = BOUND
            """);
        Runs.run("BOUND is of LEVELS alone", """
            cut(0, {0 1 2 4}, 2) = 2
            write(0, {0 1 2 4}, 1, {-8000001 8000001 MIN MAX}) = 0
            turn(0, {0 1 2 4}, 1, {-4001 4001 MIN MAX}) = 0
            """);
    }

    private static void firstRefusalOfCombs() {
        Runs.eachKind("the first of these that holds, of COMBS: NONE before SIZE", """
            comb(NOCOMB, kind, {-1 41}, 1) = NONE
            comb(NOCOMB, kind, 1, {-1 41}) = NONE
            comb(0, NOKIND, {-1 41}, 1) = NONE
            comb(0, NOKIND, 1, {-1 41}) = NONE
            about(0, 0) = NONE
            """);
        Runs.eachKind("the first of these that holds, of TEETH: NONE before LACKING, BEYOND, BOUND", """
            comb(0, kind, 2, 2) = 2
            loosen(0, 1) = 2
            hang(0, {-1 2}, 0) = NONE
            hang(1, 0, 0) = NONE
            hang(0, 0, {-1 8}) = NONE
            fit(0, 1, {-1 8}) = NONE
            cell(0, {-1 2}, {-1 2}) = NONE
            cell(1, 0, {-1 2}) = NONE
            set(0, {-1 2}, {-1 0 2}, {1 8000001}) = NONE
            set(1, 0, {-1 0 2}, {1 8000001}) = NONE
            twist(0, {-1 2}, {-1 0 2}, {1 4001}) = NONE
            twist(1, 0, {-1 0 2}, {1 4001}) = NONE
            """);
        Runs.eachKind("the first of these that holds, of TEETH: LACKING before BEYOND and BOUND", """
            comb(0, kind, 2, 2) = 2
            loosen(0, 1) = 2
            cell(0, 1, {-1 0 2 MIN MAX}) = LACKING
            set(0, 1, {-1 0 2 MIN MAX}, {0 8000001 MIN}) = LACKING
            twist(0, 1, {-1 0 2 MIN MAX}, {0 4001 MIN}) = LACKING
            """);
        Runs.run("the first of these that holds, of TEETH: BEYOND before BOUND", """
            comb(0, 3, 1, 2) = 1
            set(0, 0, {-1 2 MIN MAX}, {-8000001 8000001 MIN MAX}) = BEYOND
            twist(0, 0, {-1 2 MIN MAX}, {-4001 4001 MIN MAX}) = BEYOND
            set(0, 0, 1, {-8000001 8000001 MIN MAX}) = BOUND
            twist(0, 0, 1, {-4001 4001 MIN MAX}) = BOUND
            """);
        Runs.run("BOUND is of LEVELS alone, of TEETH too", """
            comb(0, 0, 1, 2) = 1
            comb(1, 1, 1, 2) = 1
            comb(2, 2, 1, 2) = 1
            comb(3, 4, 1, 2) = 1
            set({0..3}, 0, 1, {-8000001 8000001 MIN MAX}) = 0
            twist({0..3}, 0, 1, {-4001 4001 MIN MAX}) = 0
            """);
    }

    // The rows name a refusal; for these three calls Runs asks for the answer 0 and the refusal by state().
    private static void answer0WhenRefused() {
        Runs.eachKind("read(), cell() and heard() answer 0 then; state() tells", """
            read(0, kind, 0) = LACKING
            state() = LACKING
            state() = LACKING
            cut(0, kind, 1) = 1
            write(0, kind, 0, 1) = 0
            read(0, kind, 1) = BEYOND
            state() = BEYOND
            read(8, kind, 0) = NONE
            state() = NONE
            cell(0, 0, 0) = NONE
            comb(0, kind, 2, 1) = 2
            set(0, {0 1}, 0, 1) = 0
            cell(0, 0, 1) = BEYOND
            loosen(0, 1) = 1
            cell(0, 1, 0) = LACKING
            cell(0, 2, 0) = NONE
            play(0, 1) = 1
            heard(8, 0) = NONE
            heard(0, 7) = NONE
            state() = NONE
            """);
    }

    private static void fiveHundredAndTwelveCalls() {
        MusicBoxes x = new MusicBoxes();
        for (int i = 0; i < 127; i++) {
            for (int c = 0; c < 4; c++) {
                Runs.due("comb() as a call of 512", x.comb(c, i % 5, 40, 40), 40);
            }
        }
        Runs.due("the 509th call", x.set(3, 39, 39, 1), 0);
        Runs.due("the 510th call", x.fit(3, 39, 7), 40);
        Runs.due("the 511th call", x.read(7, 1, 39), 1);
        Runs.due("the 512th call", x.state(), 0);
        MusicBoxes y = new MusicBoxes();
        for (int i = 0; i < 508; i++) {
            Runs.due("cut() as a call of 512", y.cut(i % 8, i % 5, 300), 300);
        }
        Runs.due("the 509th call", y.head(7, 290), 0);
        Runs.due("the 510th call", y.play(7, 20), 0);
        Runs.due("the 511th call", y.heard(7, 1), 10);
        Runs.due("the 512th call", y.heard(7, 6), 300);
    }
}
