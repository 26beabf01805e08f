import java.util.Arrays;
import java.util.Random;

/**
 * Runs of up to 512 calls, drawn from fixed seeds, on the class and on a model beside it. The model is written
 * otherwise on purpose: it keeps every cell as an int and asks the library for the bits of floats.
 */
public final class ModelTest {
    private static final int RUNS = 4000;
    private static final int CALLS = 512;
    private static final int SHOWN = 20;
    private static final String[] NAMES = {"cut", "strip", "share", "places", "read", "write", "turn", "head", "play",
        "heard", "quiet", "comb", "drop", "about", "loosen", "hang", "fit", "cell", "set", "twist", "state"};
    private static final int[] ARGUMENTS = {3, 2, 3, 2, 3, 4, 4, 2, 2, 2, 1, 4, 1, 2, 2, 3, 3, 3, 4, 4, 0};
    // How often a call is drawn, in the order of NAMES; one row a profile of runs.
    private static final int[][] OFTEN = {
        {4, 1, 2, 1, 4, 6, 6, 1, 4, 4, 1, 2, 1, 2, 2, 3, 3, 4, 5, 5, 3},
        {1, 0, 0, 0, 9, 2, 20, 0, 1, 1, 0, 0, 0, 0, 0, 0, 0, 0, 0, 0, 2},
        {3, 1, 1, 0, 1, 12, 3, 3, 12, 9, 1, 0, 0, 0, 0, 0, 0, 0, 0, 0, 2},
        {2, 1, 1, 1, 3, 3, 3, 0, 1, 1, 0, 3, 1, 5, 4, 6, 6, 6, 6, 6, 2},
    };

    public static void main(String[] args) {
        int wrong = 0;
        long looked = 0;
        int[] granted = new int[NAMES.length];
        int[] refused = new int[NAMES.length];
        for (int run = 0; run < RUNS && wrong < SHOWN; run++) {
            Random random = new Random(run);
            MusicBoxes real = new MusicBoxes();
            Model model = new Model();
            int profile = run % OFTEN.length;
            for (int i = 0; i < CALLS; i++) {
                int call = drawCall(random, OFTEN[profile]);
                int[] a = drawArguments(random, call, profile);
                long want = model.answer(call, a);
                long got = answer(real, call, a);
                looked++;
                (model.state == 0 ? granted : refused)[call]++;
                if (got != want) {
                    wrong++;
                    System.out.println("run " + run + ", call " + i + ": " + NAMES[call] + Arrays.toString(
                        Arrays.copyOf(a, ARGUMENTS[call])) + " answered " + got + ", due is " + want);
                    break;
                }
            }
        }
        for (int call = 0; call < NAMES.length; call++) {
            if (granted[call] < 1000 || refused[call] < 1000) {
                wrong++;
                System.out.println(NAMES[call] + " was hardly tried: " + granted[call] + ", " + refused[call]);
            }
        }
        System.out.println(looked + " calls compared, " + wrong + " not as due");
        if (wrong != 0) {
            System.exit(1);
        }
    }

    private static int drawCall(Random random, int[] often) {
        int at = random.nextInt(Arrays.stream(often).sum());
        int call = 0;
        while (at >= often[call]) {
            at -= often[call];
            call++;
        }
        return call;
    }

    private static int[] drawArguments(Random random, int call, int profile) {
        int drum = drawIndex(random, profile == 1 ? 1 : 3, 8);
        int other = drawIndex(random, 3, 8);
        int kind = profile == 1 ? 3 : drawIndex(random, 5, 5);
        int c = drawIndex(random, 2, 4);
        int tooth = drawIndex(random, 3, 40);
        int k = drawIndex(random, profile == 1 ? 2 : 6, 301);
        int v = drawValue(random, profile);
        switch (call) {
            case 0:
                return new int[] {drum, kind, random.nextInt(6) == 0 ? drawIndex(random, 301, 301) : drawIndex(random, 8, 301)};
            case 2:
                return new int[] {drum, other, kind};
            case 7:
                return new int[] {drum, k};
            case 8:
                return new int[] {drum, drawIndex(random, 21, 21)};
            case 9:
                return new int[] {drum, drawIndex(random, 7, 7)};
            case 11:
                return new int[] {c, kind, drawIndex(random, 5, 41), drawIndex(random, 5, 41)};
            case 13:
                return new int[] {c, drawIndex(random, 4, 4)};
            case 12:
            case 14:
                return new int[] {c, tooth};
            case 15:
            case 16:
                return new int[] {c, tooth, drum};
            case 17:
            case 18:
            case 19:
                return new int[] {c, tooth, k, v};
            default:
                return new int[] {drum, kind, k, v};
        }
    }

    /** Mostly below few; else about the limit, or anything. */
    private static int drawIndex(Random random, int few, int limit) {
        int way = random.nextInt(40);
        if (way == 0) {
            return random.nextInt();
        }
        if (way == 1) {
            return limit - 1 + random.nextInt(3);
        }
        if (way == 2) {
            return -1;
        }
        return random.nextInt(few);
    }

    private static int drawValue(Random random, int profile) {
        int way = random.nextInt(12);
        if (profile == 1) {
            return way < 9 ? random.nextInt(9) - 4 : way == 9 ? random.nextInt(8003) - 4001 : random.nextInt(41) - 20;
        }
        switch (way) {
            case 0:
                return random.nextInt();
            case 1:
                return 7999999 + random.nextInt(4);
            case 2:
                return -7999999 - random.nextInt(4);
            case 3:
                return random.nextInt(16000001) - 8000000;
            case 4:
                return random.nextInt(8003) - 4001;
            case 5:
                return (random.nextBoolean() ? 1 : -1) * (1 << random.nextInt(17)) + random.nextInt(3) - 1;
            default:
                return random.nextInt(11) - 5;
        }
    }

    private static long answer(MusicBoxes x, int call, int[] a) {
        switch (NAMES[call]) {
            case "cut": return x.cut(a[0], a[1], a[2]);
            case "strip": return x.strip(a[0], a[1]);
            case "share": return x.share(a[0], a[1], a[2]);
            case "places": return x.places(a[0], a[1]);
            case "read": return x.read(a[0], a[1], a[2]);
            case "write": return x.write(a[0], a[1], a[2], a[3]);
            case "turn": return x.turn(a[0], a[1], a[2], a[3]);
            case "head": return x.head(a[0], a[1]);
            case "play": return x.play(a[0], a[1]);
            case "heard": return x.heard(a[0], a[1]);
            case "quiet": return x.quiet(a[0]);
            case "comb": return x.comb(a[0], a[1], a[2], a[3]);
            case "drop": return x.drop(a[0]);
            case "about": return x.about(a[0], a[1]);
            case "loosen": return x.loosen(a[0], a[1]);
            case "hang": return x.hang(a[0], a[1], a[2]);
            case "fit": return x.fit(a[0], a[1], a[2]);
            case "cell": return x.cell(a[0], a[1], a[2]);
            case "set": return x.set(a[0], a[1], a[2], a[3]);
            case "twist": return x.twist(a[0], a[1], a[2], a[3]);
            default: return x.state();
        }
    }

    /** A refusal on its way out of the model. */
    private static final class Refusal extends RuntimeException {
        private static final long serialVersionUID = 1L;
        final int code;

        Refusal(int code) {
            super(null, null, false, false);
            this.code = code;
        }
    }

    private static final class Model {
        final int[][][] tracks = new int[8][5][];
        final int[] heads = new int[8];
        final long[][] heard = new long[8][6];
        final int[][][] combs = new int[4][][];
        final int[] kinds = new int[4];
        int state = 0;

        long answer(int call, int[] a) {
            if (NAMES[call].equals("state")) {
                return state;
            }
            state = 0;
            try {
                return call < 11 ? ofDrums(NAMES[call], a) : ofCombs(NAMES[call], a);
            } catch (Refusal r) {
                state = r.code;
                return Arrays.asList("read", "cell", "heard").contains(NAMES[call]) ? 0 : r.code;
            }
        }

        private static void must(boolean holds, int otherwise) {
            if (!holds) {
                throw new Refusal(otherwise);
            }
        }

        private static void index(int i, int length) {
            must(0 <= i && i < length, -1);
        }

        private static int[] present(int[] track) {
            must(track != null, -2);
            return track;
        }

        private long ofDrums(String name, int[] a) {
            int d = a[0];
            index(d, 8);
            switch (name) {
                case "head":
                    must(0 <= a[1] && a[1] <= 300, -4);
                    int was = heads[d];
                    heads[d] = a[1];
                    return was;
                case "play":
                    must(0 <= a[1] && a[1] <= 20, -4);
                    return play(d, a[1]);
                case "heard":
                    index(a[1], 7);
                    return a[1] == 6 ? heads[d] : heard[d][a[1]];
                case "quiet":
                    long notes = heard[d][0];
                    heard[d] = new long[6];
                    return notes;
                case "share":
                    index(a[1], 8);
                    index(a[2], 5);
                    tracks[a[1]][a[2]] = present(tracks[d][a[2]]);
                    return tracks[d][a[2]].length;
                default:
                    index(a[1], 5);
                    return ofTracks(name, a);
            }
        }

        private long ofTracks(String name, int[] a) {
            int[][] row = tracks[a[0]];
            if (name.equals("cut")) {
                must(0 <= a[2] && a[2] <= 300, -4);
                row[a[1]] = new int[a[2]];
                return a[2];
            }
            int[] track = present(row[a[1]]);
            if (name.equals("strip")) {
                row[a[1]] = null;
            }
            if (name.equals("strip") || name.equals("places")) {
                return track.length;
            }
            return ofCells(name, track, a[1], a[2], a[3]);
        }

        private long ofCells(String name, int[] track, int kind, int k, int v) {
            must(0 <= k && k < track.length, -3);
            if (name.equals("read") || name.equals("cell")) {
                return track[k];
            }
            boolean anew = name.equals("write") || name.equals("set");
            track[k] = anew ? written(kind, v) : turned(kind, track[k], v);
            return 0;
        }

        private static int written(int kind, int v) {
            if (kind == 3) {
                must(Math.abs((long) v) <= 8000000, -5);
                return Float.floatToRawIntBits(v * 0.125f);
            }
            return kind == 0 ? (v == 0 ? 0 : 1) : cut(kind, v);
        }

        private static int cut(int kind, long number) {
            switch (kind) {
                case 0:
                    return (int) Math.floorMod(number, 2L);
                case 1:
                    return (int) Math.floorMod(number, 65536L);
                case 2:
                    return (int) (Math.floorMod(number + 32768L, 65536L) - 32768L);
                default:
                    return (int) (Math.floorMod(number + 128L, 256L) - 128L);
            }
        }

        private static int turned(int kind, int was, int v) {
            if (kind == 3) {
                must(Math.abs((long) v) <= 4000, -5);
                float product = Float.intBitsToFloat(was) * (v * 0.25f);
                must(Math.abs(product) <= 1000000f, -5);
                return Float.floatToRawIntBits(product);
            }
            return cut(kind, kind == 2 ? (long) was * v : kind == 4 ? (long) was - v : (long) was + v);
        }

        private int play(int d, int n) {
            int longest = 0;
            for (int[] track : tracks[d]) {
                longest = Math.max(longest, track == null ? 0 : track.length);
            }
            int end = Math.max(heads[d], Math.min(longest, heads[d] + n));
            int notes = 0;
            long[] sums = heard[d];
            for (int k = heads[d]; k < end; k++) {
                int[] here = {1, 60, 1, 0x3f800000, 0};
                for (int kind = 0; kind < 5; kind++) {
                    int[] track = tracks[d][kind];
                    boolean gap = track == null || track.length <= k;
                    here[kind] = gap ? here[kind] : track[k];
                    sums[2] += gap ? 1 : 0;
                }
                sums[1]++;
                if (here[0] == 1) {
                    note(sums, (long) here[1] + here[4], here[2], here[3]);
                    notes++;
                }
            }
            heads[d] = end;
            return notes;
        }

        private static void note(long[] sums, long pitch, int length, int level) {
            boolean first = sums[0] == 0;
            sums[0]++;
            sums[3] += pitch * length;
            sums[4] = first ? pitch : Math.max(sums[4], pitch);
            boolean greater = Float.intBitsToFloat(level) > Float.intBitsToFloat((int) sums[5]);
            sums[5] = first || greater ? level : sums[5];
        }

        private long ofCombs(String name, int[] a) {
            int c = a[0];
            index(c, 4);
            if (name.equals("comb")) {
                index(a[1], 5);
                must(0 <= a[2] && a[2] <= 40 && 0 <= a[3] && a[3] <= 40, -4);
                combs[c] = new int[a[2]][a[3]];
                kinds[c] = a[1];
                return a[2];
            }
            must(combs[c] != null, -1);
            if (name.equals("drop")) {
                int count = combs[c].length;
                combs[c] = null;
                return count;
            }
            if (name.equals("about")) {
                index(a[1], 4);
                int lacking = (int) Arrays.stream(combs[c]).filter(t -> t == null).count();
                int places = Arrays.stream(combs[c]).mapToInt(t -> t == null ? 0 : t.length).sum();
                return new int[] {kinds[c], combs[c].length, lacking, places}[a[1]];
            }
            index(a[1], combs[c].length);
            return ofTeeth(name, a, combs[c], kinds[c]);
        }

        private long ofTeeth(String name, int[] a, int[][] teeth, int kind) {
            if (name.equals("hang") || name.equals("fit")) {
                index(a[2], 8);
            }
            if (name.equals("hang")) {
                teeth[a[1]] = present(tracks[a[2]][kind]);
                return teeth[a[1]].length;
            }
            int[] tooth = present(teeth[a[1]]);
            if (name.equals("loosen")) {
                teeth[a[1]] = null;
                return tooth.length;
            }
            if (name.equals("fit")) {
                tracks[a[2]][kind] = tooth;
                return tooth.length;
            }
            return ofCells(name, tooth, kind, a[2], a[3]);
        }
    }
}
