/** Each promise of the document by itself: ordinary inputs, the edges it names, wrong inputs. */
public final class PromisesTest {
    private static final int PINS = 0;
    private static final int SIGNS = 1;
    private static final int LENGTHS = 2;
    private static final int LEVELS = 3;
    private static final int BENDS = 4;
    private static final int[] NO_DRUMS = {-1, 8, Integer.MIN_VALUE, Integer.MAX_VALUE};
    private static final int[] NO_KINDS = {-1, 5, Integer.MIN_VALUE, Integer.MAX_VALUE};
    private static final int[] NO_COMBS = {-1, 4, Integer.MIN_VALUE, Integer.MAX_VALUE};

    private static int wrong = 0;
    private static int asked = 0;

    public static void main(String[] args) {
        promise1NewObject();
        promise2Cut();
        promise3Strip();
        promise4Share();
        promise5Places();
        promise6Read();
        promise7Write();
        promise7WriteLevels();
        promise8Turn();
        promise8TurnLevels();
        promise8LevelsNearZero();
        promise9Head();
        promise10Play();
        promise10PlayGaps();
        promise11Heard();
        promise11HeardLevels();
        promise12Quiet();
        promise13Comb();
        promise14Drop();
        promise15About();
        promise16Loosen();
        promise17Hang();
        promise18Fit();
        promise19Cell();
        promise20Set();
        promise21Twist();
        promise22State();
        constants();
        System.out.println(asked + " answers looked at, " + wrong + " not as due");
        if (wrong != 0) {
            System.exit(1);
        }
    }

    private static void due(String call, long got, long want) {
        asked++;
        if (got != want) {
            wrong++;
            System.out.println(call + " answered " + got + ", due is " + want);
        }
    }

    /** A refusal that the call itself answers, and that state() then tells. */
    private static void refused(MusicBoxes x, String call, long got, int want) {
        due(call, got, want);
        due("state() after " + call, x.state(), want);
    }

    /** A refusal of read(), cell(), heard(): 0, and state() tells. */
    private static void refusedBy0(MusicBoxes x, String call, long got, int want) {
        due(call, got, 0);
        due("state() after " + call, x.state(), want);
    }

    private static void granted(MusicBoxes x, String call, long got, long want) {
        due(call, got, want);
        due("state() after " + call, x.state(), 0);
    }

    private static int bits(float f) {
        return Float.floatToRawIntBits(f);
    }

    private static void promise1NewObject() {
        MusicBoxes x = new MusicBoxes();
        due("state() of a new object", x.state(), 0);
        for (int drum = 0; drum < 8; drum++) {
            for (int kind = 0; kind < 5; kind++) {
                refused(x, "new places", x.places(drum, kind), MusicBoxes.LACKING);
            }
            due("new head", x.head(drum, 0), 0);
            for (int what = 0; what <= 6; what++) {
                due("new heard " + what, x.heard(drum, what), 0);
            }
        }
        for (int c = 0; c < 4; c++) {
            refused(x, "new about", x.about(c, 1), MusicBoxes.NONE);
        }
    }

    private static void promise2Cut() {
        for (int kind = 0; kind < 5; kind++) {
            MusicBoxes x = new MusicBoxes();
            granted(x, "cut 0", x.cut(7, kind, 0), 0);
            due("places of none", x.places(7, kind), 0);
            granted(x, "cut 300", x.cut(0, kind, 300), 300);
            due("write last", x.write(0, kind, 299, 1), 0);
            due("share", x.share(0, 1, kind), 300);
            int old = x.read(0, kind, 299);
            granted(x, "cut anew", x.cut(0, kind, 300), 300);
            due("all 0 at the end", x.read(0, kind, 299), 0);
            due("all 0 at first", x.read(0, kind, 0), 0);
            due("the other keeps it", x.read(1, kind, 299), old);
            due("write the new one", x.write(0, kind, 0, 1), 0);
            due("the other is another", x.read(1, kind, 0), 0);
            for (int n : new int[] {-1, 301, Integer.MIN_VALUE, Integer.MAX_VALUE}) {
                refused(x, "cut " + n, x.cut(1, kind, n), MusicBoxes.SIZE);
                due("as it was", x.places(1, kind), 300);
                for (int drum : NO_DRUMS) {
                    refused(x, "cut NONE first", x.cut(drum, kind, n), MusicBoxes.NONE);
                }
            }
            for (int drum : NO_DRUMS) {
                refused(x, "cut drum " + drum, x.cut(drum, kind, 3), MusicBoxes.NONE);
            }
        }
        MusicBoxes x = new MusicBoxes();
        for (int kind : NO_KINDS) {
            refused(x, "cut kind " + kind, x.cut(0, kind, 3), MusicBoxes.NONE);
            refused(x, "cut NONE first", x.cut(0, kind, 301), MusicBoxes.NONE);
        }
    }

    private static void promise3Strip() {
        for (int kind = 0; kind < 5; kind++) {
            MusicBoxes x = new MusicBoxes();
            refused(x, "strip", x.strip(2, kind), MusicBoxes.LACKING);
            x.cut(2, kind, 0);
            granted(x, "strip of no places", x.strip(2, kind), 0);
            x.cut(2, kind, 9);
            x.share(2, 3, kind);
            granted(x, "strip", x.strip(2, kind), 9);
            refused(x, "strip again", x.strip(2, kind), MusicBoxes.LACKING);
            due("here alone", x.places(3, kind), 9);
            for (int drum : NO_DRUMS) {
                refused(x, "strip drum", x.strip(drum, kind), MusicBoxes.NONE);
            }
        }
        MusicBoxes x = new MusicBoxes();
        for (int kind : NO_KINDS) {
            refused(x, "strip kind", x.strip(0, kind), MusicBoxes.NONE);
        }
    }

    private static void promise4Share() {
        for (int kind = 0; kind < 5; kind++) {
            MusicBoxes x = new MusicBoxes();
            x.cut(0, kind, 4);
            x.cut(5, kind, 7);
            granted(x, "share", x.share(0, 7, kind), 4);
            x.write(7, kind, 3, 1);
            int there = x.read(7, kind, 3);
            due("it is something", there != 0 ? 1 : 0, 1);
            due("the very same", x.read(0, kind, 3), there);
            granted(x, "share with itself", x.share(0, 0, kind), 4);
            due("is kept", x.read(0, kind, 3), there);
            refused(x, "share of none", x.share(1, 5, kind), MusicBoxes.LACKING);
            due("nothing done", x.places(5, kind), 7);
            granted(x, "share onto another", x.share(0, 5, kind), 4);
            for (int drum : NO_DRUMS) {
                refused(x, "share from", x.share(drum, 1, kind), MusicBoxes.NONE);
                refused(x, "share to", x.share(0, drum, kind), MusicBoxes.NONE);
                refused(x, "share NONE first", x.share(1, drum, kind), MusicBoxes.NONE);
            }
            for (int other = 0; other < 5; other++) {
                if (other != kind) {
                    due("of its kind alone", x.places(7, other), MusicBoxes.LACKING);
                }
            }
        }
        MusicBoxes x = new MusicBoxes();
        for (int kind : NO_KINDS) {
            refused(x, "share kind", x.share(0, 1, kind), MusicBoxes.NONE);
        }
    }

    private static void promise5Places() {
        MusicBoxes x = new MusicBoxes();
        for (int kind = 0; kind < 5; kind++) {
            refused(x, "places", x.places(4, kind), MusicBoxes.LACKING);
            x.cut(4, kind, 10 + kind);
        }
        for (int kind = 0; kind < 5; kind++) {
            granted(x, "places", x.places(4, kind), 10 + kind);
            for (int drum : NO_DRUMS) {
                refused(x, "places drum", x.places(drum, kind), MusicBoxes.NONE);
            }
        }
        for (int kind : NO_KINDS) {
            refused(x, "places kind", x.places(4, kind), MusicBoxes.NONE);
        }
    }

    private static void promise6Read() {
        for (int kind = 0; kind < 5; kind++) {
            MusicBoxes x = new MusicBoxes();
            refusedBy0(x, "read", x.read(0, kind, 0), MusicBoxes.LACKING);
            refusedBy0(x, "read LACKING first", x.read(0, kind, -1), MusicBoxes.LACKING);
            x.cut(0, kind, 2);
            granted(x, "read", x.read(0, kind, 0), 0);
            x.write(0, kind, 1, 1);
            granted(x, "read", x.read(0, kind, 1), kind == LEVELS ? bits(0.125f) : 1);
            for (int k : new int[] {-1, 2, Integer.MIN_VALUE, Integer.MAX_VALUE}) {
                refusedBy0(x, "read " + k, x.read(0, kind, k), MusicBoxes.BEYOND);
            }
            for (int drum : NO_DRUMS) {
                refusedBy0(x, "read drum", x.read(drum, kind, 0), MusicBoxes.NONE);
            }
        }
        MusicBoxes x = new MusicBoxes();
        for (int kind : NO_KINDS) {
            refusedBy0(x, "read kind", x.read(0, kind, 0), MusicBoxes.NONE);
        }
    }

    private static void promise7Write() {
        int[] values = {0, 1, 2, -1, 127, 128, 255, 256, -128, -129, 32767, 32768, 65535, 65536, -32768, -32769,
            8000001, Integer.MAX_VALUE, Integer.MIN_VALUE};
        for (int kind = 0; kind < 5; kind++) {
            MusicBoxes x = new MusicBoxes();
            refused(x, "write", x.write(0, kind, 0, 1), MusicBoxes.LACKING);
            refused(x, "write LACKING first", x.write(0, kind, 5, Integer.MAX_VALUE), MusicBoxes.LACKING);
            x.cut(0, kind, 3);
            refused(x, "write", x.write(0, kind, 3, 1), MusicBoxes.BEYOND);
            refused(x, "write", x.write(0, kind, -1, 1), MusicBoxes.BEYOND);
            refused(x, "write BEYOND first", x.write(0, kind, 3, Integer.MAX_VALUE), MusicBoxes.BEYOND);
            for (int drum : NO_DRUMS) {
                refused(x, "write NONE first", x.write(drum, kind, 9, Integer.MAX_VALUE), MusicBoxes.NONE);
            }
            for (int v : values) {
                if (kind != LEVELS) {
                    granted(x, "write " + v, x.write(0, kind, 1, v), 0);
                    granted(x, "read of " + v, x.read(0, kind, 1), lowest(kind, v));
                    due("its neighbour", x.read(0, kind, 0), 0);
                    due("its neighbour", x.read(0, kind, 2), 0);
                }
            }
        }
        MusicBoxes x = new MusicBoxes();
        for (int kind : NO_KINDS) {
            refused(x, "write kind", x.write(0, kind, 0, 0), MusicBoxes.NONE);
        }
    }

    private static int lowest(int kind, int v) {
        switch (kind) {
            case PINS:
                return v == 0 ? 0 : 1;
            case SIGNS:
                return v & 65535;
            case LENGTHS:
                return v << 16 >> 16;
            default:
                return v << 24 >> 24;
        }
    }

    private static void promise7WriteLevels() {
        MusicBoxes x = new MusicBoxes();
        x.cut(0, LEVELS, 1);
        for (int v : new int[] {0, 1, -1, 3, 8, -8, 60, 1234567, 4194303, 4194304, -4194305, 7999999, 8000000, -7999999, -8000000}) {
            granted(x, "write " + v, x.write(0, LEVELS, 0, v), 0);
            granted(x, "read of " + v, x.read(0, LEVELS, 0), bits((float) v / 8f));
        }
        x.write(0, LEVELS, 0, 5);
        for (int v : new int[] {8000001, -8000001, Integer.MAX_VALUE, Integer.MIN_VALUE}) {
            refused(x, "write " + v, x.write(0, LEVELS, 0, v), MusicBoxes.BOUND);
            due("as it was", x.read(0, LEVELS, 0), bits(0.625f));
        }
    }

    private static void promise8Turn() {
        int[] turns = {1, 2, 3, -1, -2, 255, 256, 40000, 65535, -65537, 4001, Integer.MAX_VALUE, Integer.MIN_VALUE};
        for (int kind = 0; kind < 5; kind++) {
            MusicBoxes x = new MusicBoxes();
            refused(x, "turn LACKING", x.turn(0, kind, 0, 1), MusicBoxes.LACKING);
            x.cut(0, kind, 2);
            refused(x, "turn BEYOND", x.turn(0, kind, 2, 1), MusicBoxes.BEYOND);
            refused(x, "turn BEYOND", x.turn(0, kind, -1, Integer.MAX_VALUE), MusicBoxes.BEYOND);
            for (int drum : NO_DRUMS) {
                refused(x, "turn NONE", x.turn(drum, kind, 0, 1), MusicBoxes.NONE);
            }
            for (int v : turns) {
                for (int start : new int[] {0, 1, -1, 100, -32768}) {
                    if (kind != LEVELS) {
                        x.write(0, kind, 1, start);
                        int was = x.read(0, kind, 1);
                        due("turn " + v, x.turn(0, kind, 1, v), 0);
                        due("kind " + kind + ", " + was + " turned " + v, x.read(0, kind, 1), turned(kind, was, v));
                        due("its neighbour", x.read(0, kind, 0), 0);
                    }
                }
            }
        }
        MusicBoxes x = new MusicBoxes();
        for (int kind : NO_KINDS) {
            refused(x, "turn kind", x.turn(0, kind, 0, 0), MusicBoxes.NONE);
        }
    }

    private static int turned(int kind, int was, int v) {
        switch (kind) {
            case PINS:
                return v % 2 == 0 ? was : 1 - was;
            case SIGNS:
                return lowest(kind, was + v);
            case LENGTHS:
                return lowest(kind, was * v);
            default:
                return lowest(kind, was - v);
        }
    }

    private static void promise8TurnLevels() {
        MusicBoxes x = new MusicBoxes();
        x.cut(0, LEVELS, 1);
        x.write(0, LEVELS, 0, 24);
        granted(x, "turn 6", x.turn(0, LEVELS, 0, 6), 0);
        due("3 times 1.5", x.read(0, LEVELS, 0), bits(4.5f));
        for (int v : new int[] {4001, -4001, Integer.MAX_VALUE, Integer.MIN_VALUE}) {
            refused(x, "turn " + v, x.turn(0, LEVELS, 0, v), MusicBoxes.BOUND);
            due("as it was", x.read(0, LEVELS, 0), bits(4.5f));
        }
        x.write(0, LEVELS, 0, 8000);
        granted(x, "just at the bound", x.turn(0, LEVELS, 0, -4000), 0);
        due("minus a million", x.read(0, LEVELS, 0), bits(-1000000f));
        refused(x, "below", x.turn(0, LEVELS, 0, 5), MusicBoxes.BOUND);
        refused(x, "above", x.turn(0, LEVELS, 0, -5), MusicBoxes.BOUND);
        due("as it was", x.read(0, LEVELS, 0), bits(-1000000f));
        granted(x, "the other side", x.turn(0, LEVELS, 0, -4), 0);
        due("a million", x.read(0, LEVELS, 0), bits(1000000f));
        x.write(0, LEVELS, 0, 8001);
        refused(x, "an eighth over", x.turn(0, LEVELS, 0, 4000), MusicBoxes.BOUND);
        x.write(0, LEVELS, 0, 5333336);
        refused(x, "a half over", x.turn(0, LEVELS, 0, 6), MusicBoxes.BOUND);
        refused(x, "a half under", x.turn(0, LEVELS, 0, -6), MusicBoxes.BOUND);
        x.write(0, LEVELS, 0, 8000);
        granted(x, "the greatest turn", x.turn(0, LEVELS, 0, 4000), 0);
        due("a million", x.read(0, LEVELS, 0), bits(1000000f));
        x.write(0, LEVELS, 0, 7999999);
        float level = 7999999f / 8f;
        for (int v : new int[] {3, 3, 3, -1, 7, 7, 7, 5, 4000, -3, 11}) {
            float next = level * (v / 4f);
            boolean fits = next >= -1000000f && next <= 1000000f;
            due("turn " + v, x.turn(0, LEVELS, 0, v), fits ? 0 : MusicBoxes.BOUND);
            level = fits ? next : level;
            due("rounded as floats are", x.read(0, LEVELS, 0), bits(level));
        }
    }

    private static void promise8LevelsNearZero() {
        MusicBoxes x = new MusicBoxes();
        x.cut(0, LEVELS, 2);
        granted(x, "turn 0 by less than 0", x.turn(0, LEVELS, 0, -1), 0);
        granted(x, "read of minus zero", x.read(0, LEVELS, 0), Integer.MIN_VALUE);
        due("turn minus zero", x.turn(0, LEVELS, 0, -4000), 0);
        due("zero", x.read(0, LEVELS, 0), 0);
        due("turn zero by zero", x.turn(0, LEVELS, 0, 0), 0);
        due("zero", x.read(0, LEVELS, 0), 0);
        x.write(0, LEVELS, 1, -5);
        float level = -0.625f;
        for (int i = 0; i < 90; i++) {
            int v = i < 62 ? 1 : 3;
            level = level * (v / 4f);
            due("turn", x.turn(0, LEVELS, 1, v), 0);
            due("small " + i, x.read(0, LEVELS, 1), bits(level));
        }
        for (int i = 0; i < 20; i++) {
            level = level * 0.25f;
            due("turn", x.turn(0, LEVELS, 1, 1), 0);
            due("smaller " + i, x.read(0, LEVELS, 1), bits(level));
        }
        due("gone to minus zero", x.read(0, LEVELS, 1), Integer.MIN_VALUE);
    }

    private static void promise9Head() {
        MusicBoxes x = new MusicBoxes();
        granted(x, "head", x.head(0, 300), 0);
        granted(x, "head", x.head(0, 5), 300);
        for (int k : new int[] {-1, 301, Integer.MIN_VALUE, Integer.MAX_VALUE}) {
            refused(x, "head " + k, x.head(0, k), MusicBoxes.SIZE);
            for (int drum : NO_DRUMS) {
                refused(x, "head NONE first", x.head(drum, k), MusicBoxes.NONE);
            }
        }
        granted(x, "head", x.head(0, 0), 5);
        due("another drum", x.head(7, 1), 0);
        due("another drum", x.head(7, 1), 1);
        for (int drum : NO_DRUMS) {
            refused(x, "head drum", x.head(drum, 0), MusicBoxes.NONE);
        }
    }

    private static void promise10Play() {
        MusicBoxes x = new MusicBoxes();
        granted(x, "play of nothing", x.play(0, 20), 0);
        due("head stays", x.heard(0, 6), 0);
        x.cut(0, PINS, 30);
        for (int k = 0; k < 30; k += 3) {
            x.write(0, PINS, k, 1);
        }
        granted(x, "play none", x.play(0, 0), 0);
        due("head stays", x.heard(0, 6), 0);
        granted(x, "play 4", x.play(0, 4), 2);
        due("head", x.heard(0, 6), 4);
        granted(x, "play 20", x.play(0, 20), 6);
        due("head", x.heard(0, 6), 24);
        for (int n : new int[] {-1, 21, Integer.MIN_VALUE, Integer.MAX_VALUE}) {
            refused(x, "play " + n, x.play(0, n), MusicBoxes.SIZE);
            due("head stays", x.heard(0, 6), 24);
            for (int drum : NO_DRUMS) {
                refused(x, "play NONE first", x.play(drum, n), MusicBoxes.NONE);
            }
        }
        granted(x, "play to the end", x.play(0, 20), 2);
        due("head behind the last", x.heard(0, 6), 30);
        granted(x, "play at the end", x.play(0, 20), 0);
        due("head", x.heard(0, 6), 30);
        x.head(0, 300);
        granted(x, "play far behind", x.play(0, 20), 0);
        due("head", x.heard(0, 6), 300);
        due("places", x.heard(0, 1), 30);
        due("notes", x.heard(0, 0), 10);
        for (int drum : NO_DRUMS) {
            refused(x, "play drum", x.play(drum, 1), MusicBoxes.NONE);
        }
        x.cut(1, BENDS, 300);
        x.head(1, 290);
        due("to the last place", x.play(1, 20), 10);
        due("head at 300", x.heard(1, 6), 300);
    }

    private static void promise10PlayGaps() {
        for (int kind = 0; kind < 5; kind++) {
            MusicBoxes x = new MusicBoxes();
            x.cut(3, kind, 2);
            due("one track alone", x.play(3, 20), kind == PINS ? 0 : 2);
            due("its places", x.heard(3, 1), 2);
            due("its gaps", x.heard(3, 2), 8);
            due("weights", x.heard(3, 3), kind == BENDS || kind == LEVELS ? 120 : 0);
            due("pitch", x.heard(3, 4), kind == PINS || kind == SIGNS ? 0 : 60);
            due("level", x.heard(3, 5), kind == PINS || kind == LEVELS ? 0 : bits(1f));
        }
        MusicBoxes x = new MusicBoxes();
        for (int kind = 0; kind < 5; kind++) {
            x.cut(0, kind, kind + 1);
        }
        due("play", x.play(0, 20), 4);
        due("as long as the longest", x.heard(0, 6), 5);
        due("gaps behind the shorter ones", x.heard(0, 2), 4 + 3 + 2 + 1);
        MusicBoxes y = new MusicBoxes();
        y.cut(0, PINS, 5);
        y.cut(0, SIGNS, 3);
        y.head(0, 2);
        due("no note by pins of 0", y.play(0, 20), 0);
        due("gaps without notes", y.heard(0, 2), 3 + 4 + 4);
    }

    private static void promise11Heard() {
        MusicBoxes x = new MusicBoxes();
        x.cut(0, SIGNS, 3);
        x.cut(0, LENGTHS, 3);
        x.cut(0, BENDS, 3);
        for (int k = 0; k < 3; k++) {
            x.write(0, SIGNS, k, 65535);
            x.write(0, LENGTHS, k, 32767);
            x.write(0, BENDS, k, 127);
        }
        due("play", x.play(0, 20), 3);
        granted(x, "notes", x.heard(0, 0), 3);
        granted(x, "places", x.heard(0, 1), 3);
        granted(x, "gaps", x.heard(0, 2), 6);
        granted(x, "weights beyond an int", x.heard(0, 3), 3L * 65662L * 32767L);
        granted(x, "pitch", x.heard(0, 4), 65662);
        granted(x, "level", x.heard(0, 5), bits(1f));
        granted(x, "head", x.heard(0, 6), 3);
        x.write(0, LENGTHS, 0, -32768);
        x.head(0, 0);
        due("play again", x.play(0, 1), 1);
        granted(x, "a single weight below an int's", x.heard(0, 3), 65662L * (3L * 32767L - 32768L));
        for (int what : new int[] {-1, 7, Integer.MIN_VALUE, Integer.MAX_VALUE}) {
            refusedBy0(x, "heard " + what, x.heard(0, what), MusicBoxes.NONE);
        }
        for (int drum : NO_DRUMS) {
            refusedBy0(x, "heard drum", x.heard(drum, 0), MusicBoxes.NONE);
            refusedBy0(x, "heard drum", x.heard(drum, 6), MusicBoxes.NONE);
        }
        due("another drum's", x.heard(1, 0), 0);
        MusicBoxes y = new MusicBoxes();
        y.cut(0, SIGNS, 2);
        y.cut(0, BENDS, 2);
        y.write(0, BENDS, 0, -128);
        y.write(0, BENDS, 1, -7);
        due("play", y.play(0, 1), 1);
        granted(y, "pitch below 0", y.heard(0, 4), -128);
        due("weight below 0", y.heard(0, 3), -128);
        due("play", y.play(0, 1), 1);
        granted(y, "the higher one", y.heard(0, 4), -7);
        granted(y, "both weights", y.heard(0, 3), -135);
        y.head(0, 0);
        y.play(0, 1);
        due("the higher one stays", y.heard(0, 4), -7);
    }

    private static void promise11HeardLevels() {
        MusicBoxes x = new MusicBoxes();
        x.cut(0, PINS, 5);
        x.cut(0, LEVELS, 5);
        int[] eighths = {-16, -8, 0, 0, 80};
        for (int k = 0; k < 5; k++) {
            x.write(0, LEVELS, k, eighths[k]);
            x.write(0, PINS, k, k == 4 ? 0 : 1);
        }
        x.turn(0, LEVELS, 2, -1);
        due("play", x.play(0, 1), 1);
        granted(x, "level below 0", x.heard(0, 5), (long) bits(-2f));
        due("play", x.play(0, 1), 1);
        granted(x, "the greater one", x.heard(0, 5), (long) bits(-1f));
        due("play", x.play(0, 1), 1);
        granted(x, "minus zero", x.heard(0, 5), (long) Integer.MIN_VALUE);
        due("play", x.play(0, 1), 1);
        granted(x, "minus zero, the first of equal ones", x.heard(0, 5), (long) Integer.MIN_VALUE);
        due("play", x.play(0, 1), 0);
        granted(x, "of notes alone", x.heard(0, 5), (long) Integer.MIN_VALUE);
        x.quiet(0);
        x.head(0, 3);
        x.play(0, 1);
        x.head(0, 2);
        x.play(0, 1);
        due("zero, the first of equal ones", x.heard(0, 5), 0);
    }

    private static void promise12Quiet() {
        MusicBoxes x = new MusicBoxes();
        x.cut(6, SIGNS, 10);
        x.write(6, SIGNS, 3, 9);
        x.play(6, 7);
        x.cut(5, SIGNS, 1);
        x.play(5, 1);
        granted(x, "quiet", x.quiet(6), 7);
        for (int what = 0; what < 6; what++) {
            due("forgotten " + what, x.heard(6, what), 0);
        }
        due("head stays", x.heard(6, 6), 7);
        due("another drum's", x.heard(5, 0), 1);
        granted(x, "quiet again", x.quiet(6), 0);
        x.cut(6, BENDS, 10);
        x.write(6, BENDS, 7, -3);
        due("play on", x.play(6, 1), 1);
        due("anew", x.heard(6, 4), -3);
        due("anew", x.heard(6, 2), 3);
        for (int drum : NO_DRUMS) {
            refused(x, "quiet drum", x.quiet(drum), MusicBoxes.NONE);
        }
    }

    private static void promise13Comb() {
        MusicBoxes x = new MusicBoxes();
        granted(x, "comb", x.comb(3, SIGNS, 40, 40), 40);
        due("all places", x.about(3, 3), 1600);
        x.set(3, 0, 39, 7);
        due("each of its own", x.cell(3, 1, 39), 0);
        due("each of its own", x.cell(3, 0, 39), 7);
        x.fit(3, 0, 2);
        for (int size : new int[] {-1, 41, Integer.MIN_VALUE, Integer.MAX_VALUE}) {
            refused(x, "comb teeth", x.comb(3, PINS, size, 1), MusicBoxes.SIZE);
            refused(x, "comb places", x.comb(3, PINS, 1, size), MusicBoxes.SIZE);
            refused(x, "comb places of none", x.comb(3, PINS, 0, size), MusicBoxes.SIZE);
            for (int c : NO_COMBS) {
                refused(x, "comb NONE first", x.comb(c, PINS, size, 1), MusicBoxes.NONE);
            }
            for (int kind : NO_KINDS) {
                refused(x, "comb NONE first", x.comb(0, kind, 1, size), MusicBoxes.NONE);
            }
        }
        due("as it was", x.cell(3, 0, 39), 7);
        for (int c : NO_COMBS) {
            refused(x, "comb c", x.comb(c, PINS, 1, 1), MusicBoxes.NONE);
        }
        for (int kind : NO_KINDS) {
            refused(x, "comb kind", x.comb(0, kind, 1, 1), MusicBoxes.NONE);
        }
        granted(x, "comb anew", x.comb(3, SIGNS, 2, 40), 2);
        due("all 0", x.cell(3, 0, 39), 0);
        due("the drum keeps it", x.read(2, SIGNS, 39), 7);
        granted(x, "comb without teeth", x.comb(3, BENDS, 0, 0), 0);
        due("its kind", x.about(3, 0), BENDS);
        granted(x, "comb without places", x.comb(3, LEVELS, 3, 0), 3);
        due("none", x.about(3, 3), 0);
        due("none lack", x.about(3, 2), 0);
        refusedBy0(x, "cell of no places", x.cell(3, 2, 0), MusicBoxes.BEYOND);
    }

    private static void promise14Drop() {
        MusicBoxes x = new MusicBoxes();
        refused(x, "drop of none", x.drop(0), MusicBoxes.NONE);
        x.comb(0, BENDS, 5, 2);
        x.comb(1, BENDS, 0, 2);
        x.loosen(0, 1);
        x.fit(0, 0, 1);
        granted(x, "drop", x.drop(0), 5);
        refused(x, "drop again", x.drop(0), MusicBoxes.NONE);
        due("the drum keeps it", x.places(1, BENDS), 2);
        granted(x, "drop without teeth", x.drop(1), 0);
        refused(x, "drop again", x.drop(1), MusicBoxes.NONE);
        for (int c : NO_COMBS) {
            refused(x, "drop c", x.drop(c), MusicBoxes.NONE);
        }
    }

    private static void promise15About() {
        MusicBoxes x = new MusicBoxes();
        for (int kind = 0; kind < 5; kind++) {
            x.comb(2, kind, 4, 3);
            granted(x, "kind", x.about(2, 0), kind);
        }
        granted(x, "teeth", x.about(2, 1), 4);
        granted(x, "lacking", x.about(2, 2), 0);
        granted(x, "places", x.about(2, 3), 12);
        x.loosen(2, 0);
        x.loosen(2, 3);
        granted(x, "teeth", x.about(2, 1), 4);
        granted(x, "lacking", x.about(2, 2), 2);
        granted(x, "places", x.about(2, 3), 6);
        x.cut(0, BENDS, 300);
        x.hang(2, 0, 0);
        x.hang(2, 1, 0);
        granted(x, "lacking", x.about(2, 2), 1);
        granted(x, "places, each tooth's", x.about(2, 3), 603);
        for (int what : new int[] {-1, 4, Integer.MIN_VALUE, Integer.MAX_VALUE}) {
            refused(x, "about " + what, x.about(2, what), MusicBoxes.NONE);
        }
        refused(x, "about none", x.about(1, 0), MusicBoxes.NONE);
        for (int c : NO_COMBS) {
            refused(x, "about c", x.about(c, 0), MusicBoxes.NONE);
        }
    }

    private static void promise16Loosen() {
        MusicBoxes x = new MusicBoxes();
        refused(x, "loosen of none", x.loosen(0, 0), MusicBoxes.NONE);
        x.comb(0, LENGTHS, 3, 6);
        x.fit(0, 2, 4);
        granted(x, "loosen", x.loosen(0, 2), 6);
        refused(x, "loosen again", x.loosen(0, 2), MusicBoxes.LACKING);
        due("here alone", x.places(4, LENGTHS), 6);
        granted(x, "another", x.loosen(0, 0), 6);
        for (int tooth : new int[] {-1, 3, 40, Integer.MIN_VALUE, Integer.MAX_VALUE}) {
            refused(x, "loosen tooth", x.loosen(0, tooth), MusicBoxes.NONE);
        }
        for (int c : NO_COMBS) {
            refused(x, "loosen c", x.loosen(c, 0), MusicBoxes.NONE);
        }
    }

    private static void promise17Hang() {
        for (int kind = 0; kind < 5; kind++) {
            MusicBoxes x = new MusicBoxes();
            refused(x, "hang on none", x.hang(1, 0, 0), MusicBoxes.NONE);
            x.comb(1, kind, 3, 2);
            refused(x, "hang", x.hang(1, 0, 0), MusicBoxes.LACKING);
            due("nothing done", x.about(1, 3), 6);
            x.cut(0, (kind + 1) % 5, 9);
            refused(x, "hang of another kind", x.hang(1, 0, 0), MusicBoxes.LACKING);
            x.cut(0, kind, 300);
            x.write(0, kind, 299, 1);
            granted(x, "hang", x.hang(1, 0, 0), 300);
            due("the very track", x.cell(1, 0, 299), x.read(0, kind, 299));
            due("set there", x.set(1, 0, 0, 1), 0);
            due("is so here", x.read(0, kind, 0), x.read(0, kind, 299));
            x.loosen(1, 2);
            granted(x, "hang in the place of none", x.hang(1, 2, 0), 300);
            for (int tooth : new int[] {-1, 3, Integer.MIN_VALUE, Integer.MAX_VALUE}) {
                refused(x, "hang tooth", x.hang(1, tooth, 0), MusicBoxes.NONE);
                refused(x, "hang NONE first", x.hang(1, tooth, 5), MusicBoxes.NONE);
            }
            for (int drum : NO_DRUMS) {
                refused(x, "hang drum", x.hang(1, 0, drum), MusicBoxes.NONE);
            }
            for (int c : NO_COMBS) {
                refused(x, "hang c", x.hang(c, 0, 0), MusicBoxes.NONE);
            }
        }
    }

    private static void promise18Fit() {
        for (int kind = 0; kind < 5; kind++) {
            MusicBoxes x = new MusicBoxes();
            refused(x, "fit of none", x.fit(2, 0, 0), MusicBoxes.NONE);
            x.comb(2, kind, 2, 8);
            x.cut(0, kind, 5);
            x.loosen(2, 0);
            refused(x, "fit", x.fit(2, 0, 0), MusicBoxes.LACKING);
            due("nothing done", x.places(0, kind), 5);
            granted(x, "fit", x.fit(2, 1, 0), 8);
            due("places", x.places(0, kind), 8);
            x.write(0, kind, 7, 1);
            due("the very tooth", x.cell(2, 1, 7), x.read(0, kind, 7));
            due("it is something", x.cell(2, 1, 7) != 0 ? 1 : 0, 1);
            for (int drum : NO_DRUMS) {
                refused(x, "fit drum", x.fit(2, 1, drum), MusicBoxes.NONE);
                refused(x, "fit NONE first", x.fit(2, 0, drum), MusicBoxes.NONE);
            }
            for (int tooth : new int[] {-1, 2, Integer.MIN_VALUE, Integer.MAX_VALUE}) {
                refused(x, "fit tooth", x.fit(2, tooth, 0), MusicBoxes.NONE);
            }
            for (int c : NO_COMBS) {
                refused(x, "fit c", x.fit(c, 0, 0), MusicBoxes.NONE);
            }
            for (int other = 0; other < 5; other++) {
                if (other != kind) {
                    due("of its kind alone", x.places(0, other), MusicBoxes.LACKING);
                }
            }
        }
    }

    private static void promise19Cell() {
        for (int kind = 0; kind < 5; kind++) {
            MusicBoxes x = new MusicBoxes();
            refusedBy0(x, "cell of none", x.cell(0, 0, 0), MusicBoxes.NONE);
            x.comb(0, kind, 2, 3);
            granted(x, "cell", x.cell(0, 1, 2), 0);
            x.set(0, 1, 2, 1);
            granted(x, "cell", x.cell(0, 1, 2), kind == LEVELS ? bits(0.125f) : 1);
            for (int k : new int[] {-1, 3, Integer.MIN_VALUE, Integer.MAX_VALUE}) {
                refusedBy0(x, "cell " + k, x.cell(0, 1, k), MusicBoxes.BEYOND);
            }
            x.loosen(0, 1);
            refusedBy0(x, "cell LACKING first", x.cell(0, 1, 9), MusicBoxes.LACKING);
            for (int tooth : new int[] {-1, 2, Integer.MIN_VALUE, Integer.MAX_VALUE}) {
                refusedBy0(x, "cell tooth", x.cell(0, tooth, 0), MusicBoxes.NONE);
            }
            for (int c : NO_COMBS) {
                refusedBy0(x, "cell c", x.cell(c, 0, 0), MusicBoxes.NONE);
            }
        }
    }

    private static void promise20Set() {
        for (int kind = 0; kind < 5; kind++) {
            MusicBoxes x = new MusicBoxes();
            refused(x, "set of none", x.set(0, 0, 0, 1), MusicBoxes.NONE);
            x.comb(0, kind, 2, 3);
            if (kind == LEVELS) {
                due("set", x.set(0, 1, 2, -8000000), 0);
                due("cell", x.cell(0, 1, 2), bits(-1000000f));
                refused(x, "set", x.set(0, 1, 2, -8000001), MusicBoxes.BOUND);
                refused(x, "set", x.set(0, 1, 2, 8000001), MusicBoxes.BOUND);
                due("as it was", x.cell(0, 1, 2), bits(-1000000f));
            } else {
                granted(x, "set", x.set(0, 1, 2, -8012345), 0);
                granted(x, "cell", x.cell(0, 1, 2), lowest(kind, -8012345));
            }
            refused(x, "set BEYOND first", x.set(0, 1, 3, 8000001), MusicBoxes.BEYOND);
            refused(x, "set", x.set(0, 1, -1, 1), MusicBoxes.BEYOND);
            x.loosen(0, 1);
            refused(x, "set LACKING first", x.set(0, 1, 3, 1), MusicBoxes.LACKING);
            for (int tooth : new int[] {-1, 2, Integer.MIN_VALUE, Integer.MAX_VALUE}) {
                refused(x, "set tooth", x.set(0, tooth, 9, 8000001), MusicBoxes.NONE);
            }
            for (int c : NO_COMBS) {
                refused(x, "set c", x.set(c, 0, 0, 1), MusicBoxes.NONE);
            }
        }
    }

    private static void promise21Twist() {
        for (int kind = 0; kind < 5; kind++) {
            MusicBoxes x = new MusicBoxes();
            refused(x, "twist of none", x.twist(0, 0, 0, 1), MusicBoxes.NONE);
            x.comb(0, kind, 2, 3);
            x.set(0, 0, 1, 100);
            int was = x.cell(0, 0, 1);
            granted(x, "twist", x.twist(0, 0, 1, -3999), 0);
            int want = kind == LEVELS ? bits(12.5f * -999.75f) : turned(kind, was, -3999);
            granted(x, "cell", x.cell(0, 0, 1), want);
            due("the other tooth", x.cell(0, 1, 1), 0);
            int far = kind == LEVELS ? MusicBoxes.BOUND : 0;
            due("twist", x.twist(0, 0, 1, 4001), far);
            due("state", x.state(), far);
            refused(x, "twist BEYOND first", x.twist(0, 0, 3, 4001), MusicBoxes.BEYOND);
            refused(x, "twist", x.twist(0, 0, -1, 1), MusicBoxes.BEYOND);
            x.loosen(0, 0);
            refused(x, "twist LACKING first", x.twist(0, 0, 3, 1), MusicBoxes.LACKING);
            for (int tooth : new int[] {-1, 2, Integer.MIN_VALUE, Integer.MAX_VALUE}) {
                refused(x, "twist tooth", x.twist(0, tooth, 9, 4001), MusicBoxes.NONE);
            }
            for (int c : NO_COMBS) {
                refused(x, "twist c", x.twist(c, 0, 0, 1), MusicBoxes.NONE);
            }
        }
    }

    private static void promise22State() {
        MusicBoxes x = new MusicBoxes();
        x.cut(0, LENGTHS, 1);
        x.cut(0, BENDS, 1);
        for (int v = -1; v >= -5; v--) {
            x.write(0, LENGTHS, 0, v);
            granted(x, "a value is no refusal", x.read(0, LENGTHS, 0), v);
        }
        x.write(0, BENDS, 0, -62);
        x.write(0, LENGTHS, 0, 1);
        x.play(0, 1);
        granted(x, "a sum is no refusal", x.heard(0, 3), -2);
        granted(x, "a pitch is no refusal", x.heard(0, 4), -2);
        x.write(0, BENDS, 0, -2);
        x.comb(0, BENDS, 1, 1);
        x.set(0, 0, 0, -3);
        granted(x, "a cell is no refusal", x.cell(0, 0, 0), -3);
        x.read(0, PINS, 0);
        due("state", x.state(), MusicBoxes.LACKING);
        due("state after state", x.state(), MusicBoxes.LACKING);
        x.places(0, BENDS);
        due("state", x.state(), 0);
        refused(x, "quiet", x.quiet(8), MusicBoxes.NONE);
        granted(x, "heard after a refusal", x.heard(0, 0), 1);
        refused(x, "comb", x.comb(0, 0, 41, 0), MusicBoxes.SIZE);
        granted(x, "read after a refusal", x.read(0, BENDS, 0), -2);
        refused(x, "set", x.set(0, 0, 1, 0), MusicBoxes.BEYOND);
        granted(x, "write after a refusal", x.write(0, BENDS, 0, 1), 0);
    }

    private static void constants() {
        due("NONE", MusicBoxes.NONE, -1);
        due("LACKING", MusicBoxes.LACKING, -2);
        due("BEYOND", MusicBoxes.BEYOND, -3);
        due("SIZE", MusicBoxes.SIZE, -4);
        due("BOUND", MusicBoxes.BOUND, -5);
    }
}
