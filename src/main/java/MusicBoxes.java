/** A works of music boxes; what each call promises stands in the project's document. */
public final class MusicBoxes {
    public static final int NONE = -1;
    public static final int LACKING = -2;
    public static final int BEYOND = -3;
    public static final int SIZE = -4;
    public static final int BOUND = -5;

    private static final int DRUMS = 8;
    private static final int COMBS = 4;
    private static final int MOST_PLACES = 300;
    private static final int MOST_OF_COMB = 40;
    private static final int MOST_PLAYED = 20;

    private static final int KINDS = 5;
    private static final int PINS = 0;
    private static final int SIGNS = 1;
    private static final int LENGTHS = 2;
    private static final int LEVELS = 3;
    private static final int BENDS = 4;

    private static final int LAST_HEARD = 6;
    private static final int LAST_ABOUT = 3;

    private static final int MOST_EIGHTHS = 8000000;
    private static final int MOST_QUARTERS = 4000;
    private static final int MOST_LEVEL = 1000000;

    private final Drum[] drums;
    private final Comb[] combs;

    // Kept apart from the answers: read() may answer -1 as a value, which is no refusal.
    private int refusal;

    public MusicBoxes() {
        drums = new Drum[DRUMS];
        for (int i = 0; i < DRUMS; i++) {
            drums[i] = new Drum();
        }
        combs = new Comb[COMBS];
        refusal = 0;
    }

    public int cut(int drum, int kind, int n) {
        if (!isDrum(drum) || !isKind(kind)) {
            return refuse(NONE);
        }
        if (!isUpTo(n, MOST_PLACES)) {
            return refuse(SIZE);
        }
        drums[drum].tracks[kind] = newTrack(kind, n);
        return grant(n);
    }

    public int strip(int drum, int kind) {
        Track track = trackOfDrum(drum, kind);
        if (track == null) {
            return refusal;
        }
        drums[drum].tracks[kind] = null;
        return track.extent;
    }

    public int share(int from, int to, int kind) {
        if (!isDrum(to)) {
            return refuse(NONE);
        }
        Track track = trackOfDrum(from, kind);
        if (track == null) {
            return refusal;
        }
        drums[to].tracks[kind] = track;
        return track.extent;
    }

    public int places(int drum, int kind) {
        Track track = trackOfDrum(drum, kind);
        return track == null ? refusal : track.extent;
    }

    public int read(int drum, int kind, int k) {
        return valueIn(trackOfDrum(drum, kind), k);
    }

    public int write(int drum, int kind, int k, int v) {
        return putInto(trackOfDrum(drum, kind), k, v);
    }

    public int turn(int drum, int kind, int k, int v) {
        return alterIn(trackOfDrum(drum, kind), k, v);
    }

    public int head(int drum, int k) {
        if (!isDrum(drum)) {
            return refuse(NONE);
        }
        if (!isUpTo(k, MOST_PLACES)) {
            return refuse(SIZE);
        }
        int before = drums[drum].headAt;
        drums[drum].headAt = k;
        return grant(before);
    }

    public int play(int drum, int n) {
        if (!isDrum(drum)) {
            return refuse(NONE);
        }
        if (!isUpTo(n, MOST_PLAYED)) {
            return refuse(SIZE);
        }
        return grant(drums[drum].playOn(n));
    }

    public long heard(int drum, int what) {
        if (!isDrum(drum) || !isUpTo(what, LAST_HEARD)) {
            refuse(NONE);
            return 0L;
        }
        refusal = 0;
        return drums[drum].tally(what);
    }

    public int quiet(int drum) {
        if (!isDrum(drum)) {
            return refuse(NONE);
        }
        int notes = drums[drum].notes;
        drums[drum].forget();
        return grant(notes);
    }

    public int comb(int c, int kind, int teeth, int places) {
        if (!isComb(c) || !isKind(kind)) {
            return refuse(NONE);
        }
        if (!isUpTo(teeth, MOST_OF_COMB) || !isUpTo(places, MOST_OF_COMB)) {
            return refuse(SIZE);
        }
        Comb made = new Comb(kind, teeth);
        for (int i = 0; i < teeth; i++) {
            made.teeth[i] = newTrack(kind, places);
        }
        combs[c] = made;
        return grant(teeth);
    }

    public int drop(int c) {
        Comb comb = combOf(c);
        if (comb == null) {
            return refuse(NONE);
        }
        combs[c] = null;
        return grant(comb.teeth.length);
    }

    public int about(int c, int what) {
        Comb comb = combOf(c);
        if (comb == null || !isUpTo(what, LAST_ABOUT)) {
            return refuse(NONE);
        }
        return grant(comb.tell(what));
    }

    public int loosen(int c, int tooth) {
        Comb comb = combWithTooth(c, tooth);
        if (comb == null) {
            return refuse(NONE);
        }
        Track track = comb.teeth[tooth];
        if (track == null) {
            return refuse(LACKING);
        }
        comb.teeth[tooth] = null;
        return grant(track.extent);
    }

    public int hang(int c, int tooth, int drum) {
        Comb comb = combWithTooth(c, tooth);
        if (comb == null) {
            return refuse(NONE);
        }
        Track track = trackOfDrum(drum, comb.kind);
        if (track == null) {
            return refusal;
        }
        comb.teeth[tooth] = track;
        return track.extent;
    }

    public int fit(int c, int tooth, int drum) {
        Comb comb = combWithTooth(c, tooth);
        if (comb == null || !isDrum(drum)) {
            return refuse(NONE);
        }
        Track track = comb.teeth[tooth];
        if (track == null) {
            return refuse(LACKING);
        }
        drums[drum].tracks[comb.kind] = track;
        return grant(track.extent);
    }

    public int cell(int c, int tooth, int k) {
        return valueIn(trackOfTooth(c, tooth), k);
    }

    public int set(int c, int tooth, int k, int v) {
        return putInto(trackOfTooth(c, tooth), k, v);
    }

    public int twist(int c, int tooth, int k, int v) {
        return alterIn(trackOfTooth(c, tooth), k, v);
    }

    public int state() {
        return refusal;
    }

    private int refuse(int why) {
        refusal = why;
        return why;
    }

    private int grant(int answer) {
        refusal = 0;
        return answer;
    }

    private static boolean isUpTo(int number, int most) {
        return number >= 0 && number <= most;
    }

    private static boolean isDrum(int drum) {
        return drum >= 0 && drum < DRUMS;
    }

    private static boolean isKind(int kind) {
        return kind >= 0 && kind < KINDS;
    }

    private static boolean isComb(int c) {
        return c >= 0 && c < COMBS;
    }

    /** Null where there is none; the caller refuses then. */
    private Comb combOf(int c) {
        return isComb(c) ? combs[c] : null;
    }

    /** Null where there is no such comb or no such tooth; the caller refuses then. */
    private Comb combWithTooth(int c, int tooth) {
        Comb comb = combOf(c);
        if (comb == null || tooth < 0 || tooth >= comb.teeth.length) {
            return null;
        }
        return comb;
    }

    /** Null where there is none, and the refusal says why already. */
    private Track trackOfDrum(int drum, int kind) {
        if (!isDrum(drum) || !isKind(kind)) {
            refusal = NONE;
            return null;
        }
        return wanted(drums[drum].tracks[kind]);
    }

    /** Null where there is none, and the refusal says why already. */
    private Track trackOfTooth(int c, int tooth) {
        Comb comb = combWithTooth(c, tooth);
        if (comb == null) {
            refusal = NONE;
            return null;
        }
        return wanted(comb.teeth[tooth]);
    }

    private Track wanted(Track track) {
        refusal = track == null ? LACKING : 0;
        return track;
    }

    // The next three take a track as trackOfDrum() or trackOfTooth() found it:
    // where it is null, the refusal stands already.

    private int valueIn(Track track, int k) {
        if (track == null) {
            return 0;
        }
        if (!track.hasPlace(k)) {
            refuse(BEYOND);
            return 0;
        }
        return track.valueAt(k);
    }

    private int putInto(Track track, int k, int v) {
        if (track == null) {
            return refusal;
        }
        if (!track.hasPlace(k)) {
            return refuse(BEYOND);
        }
        return track.put(k, v) ? 0 : refuse(BOUND);
    }

    private int alterIn(Track track, int k, int v) {
        if (track == null) {
            return refusal;
        }
        if (!track.hasPlace(k)) {
            return refuse(BEYOND);
        }
        return track.alter(k, v) ? 0 : refuse(BOUND);
    }

    /** The caller has looked at kind and n. */
    private static Track newTrack(int kind, int n) {
        switch (kind) {
            case PINS:
                return new PinTrack(n);
            case SIGNS:
                return new SignTrack(n);
            case LENGTHS:
                return new LengthTrack(n);
            case LEVELS:
                return new LevelTrack(n);
            default:
                return new BendTrack(n);
        }
    }

    /** A row of cells; drums and teeth that share it hold the same object. */
    private abstract static class Track {
        final int extent;

        Track(int extent) {
            this.extent = extent;
        }

        final boolean hasPlace(int k) {
            return k >= 0 && k < extent;
        }

        // The caller of these three has asked hasPlace(k).

        abstract int valueAt(int k);

        /** False, with nothing done, where the value is out of bounds. */
        abstract boolean put(int k, int v);

        /** False, with nothing done, where v or the new value is out of bounds. */
        abstract boolean alter(int k, int v);
    }

    private static final class PinTrack extends Track {
        private final boolean[] cells;

        PinTrack(int n) {
            super(n);
            cells = new boolean[n];
        }

        int valueAt(int k) {
            return cells[k] ? 1 : 0;
        }

        boolean put(int k, int v) {
            cells[k] = v != 0;
            return true;
        }

        boolean alter(int k, int v) {
            if ((v & 1) != 0) {
                cells[k] = !cells[k];
            }
            return true;
        }
    }

    private static final class SignTrack extends Track {
        private final char[] cells;

        SignTrack(int n) {
            super(n);
            cells = new char[n];
        }

        int valueAt(int k) {
            return cells[k];
        }

        boolean put(int k, int v) {
            cells[k] = (char) v;
            return true;
        }

        boolean alter(int k, int v) {
            cells[k] = (char) (cells[k] + v);
            return true;
        }
    }

    private static final class LengthTrack extends Track {
        private final short[] cells;

        LengthTrack(int n) {
            super(n);
            cells = new short[n];
        }

        int valueAt(int k) {
            return cells[k];
        }

        boolean put(int k, int v) {
            cells[k] = (short) v;
            return true;
        }

        boolean alter(int k, int v) {
            cells[k] = (short) (cells[k] * v);
            return true;
        }
    }

    private static final class LevelTrack extends Track {
        private final float[] cells;

        LevelTrack(int n) {
            super(n);
            cells = new float[n];
        }

        float levelAt(int k) {
            return cells[k];
        }

        int valueAt(int k) {
            return bitsOf(cells[k]);
        }

        boolean put(int k, int v) {
            if (v < -MOST_EIGHTHS || v > MOST_EIGHTHS) {
                return false;
            }
            cells[k] = (float) v / 8f;
            return true;
        }

        boolean alter(int k, int v) {
            if (v < -MOST_QUARTERS || v > MOST_QUARTERS) {
                return false;
            }
            float product = cells[k] * ((float) v / 4f);
            if (product < (float) -MOST_LEVEL || product > (float) MOST_LEVEL) {
                return false;
            }
            cells[k] = product;
            return true;
        }

        /**
         * The IEEE 754 bits, by arithmetic alone, as the library's function for it is not to be used.
         * Doubling is exact, for numbers below the normal ones too; no level reaches 2 to the 23rd.
         */
        static int bitsOf(float level) {
            int sign = isNegative(level) ? 1 << 31 : 0;
            if (level == 0f) {
                return sign;
            }
            float fraction = level < 0f ? -level : level;
            // One less than the exponent's field: the fraction's own highest bit adds that one.
            int exponent = 149;
            while (exponent > 0 && fraction < 8388608f) {
                fraction = fraction * 2f;
                exponent--;
            }
            return sign | ((exponent << 23) + (int) fraction);
        }

        /** Minus zero equals zero in comparisons, but not as a divisor: 1 by it is minus infinity. */
        private static boolean isNegative(float level) {
            return level == 0f ? 1f / level < 0f : level < 0f;
        }
    }

    private static final class BendTrack extends Track {
        private final byte[] cells;

        BendTrack(int n) {
            super(n);
            cells = new byte[n];
        }

        int valueAt(int k) {
            return cells[k];
        }

        boolean put(int k, int v) {
            cells[k] = (byte) v;
            return true;
        }

        boolean alter(int k, int v) {
            cells[k] = (byte) (cells[k] - v);
            return true;
        }
    }

    private static final class Drum {
        /** By kind; null where a track lacks. */
        final Track[] tracks;
        int headAt;
        int notes;
        private int placesPlayed;
        private int gaps;
        private long weights;
        private int highestPitch;
        private float greatestLevel;

        Drum() {
            tracks = new Track[KINDS];
        }

        int playOn(int n) {
            int before = notes;
            for (int i = 0; i < n && someTrackHas(headAt); i++) {
                playPlace(headAt);
                headAt++;
            }
            return notes - before;
        }

        private boolean someTrackHas(int k) {
            for (int kind = 0; kind < KINDS; kind++) {
                Track track = tracks[kind];
                if (track != null && track.hasPlace(k)) {
                    return true;
                }
            }
            return false;
        }

        // All five are asked before the pin is looked at: gaps count without a note too.
        private void playPlace(int k) {
            int pin = ask(PINS, k, 1);
            int sign = ask(SIGNS, k, 60);
            int length = ask(LENGTHS, k, 1);
            float level = askLevel(k);
            int bend = ask(BENDS, k, 0);
            placesPlayed++;
            if (pin == 1) {
                sound(sign + bend, length, level);
            }
        }

        private int ask(int kind, int k, int inGap) {
            Track track = tracks[kind];
            if (track != null && track.hasPlace(k)) {
                return track.valueAt(k);
            }
            gaps++;
            return inGap;
        }

        private float askLevel(int k) {
            if (tracks[LEVELS] instanceof LevelTrack levels && levels.hasPlace(k)) {
                return levels.levelAt(k);
            }
            gaps++;
            return 1f;
        }

        private void sound(int pitch, int length, float level) {
            if (notes == 0 || pitch > highestPitch) {
                highestPitch = pitch;
            }
            if (notes == 0 || level > greatestLevel) {
                greatestLevel = level;
            }
            // As long: the highest pitch times the greatest length is more than an int holds.
            weights += (long) pitch * length;
            notes++;
        }

        long tally(int what) {
            switch (what) {
                case 0:
                    return notes;
                case 1:
                    return placesPlayed;
                case 2:
                    return gaps;
                case 3:
                    return weights;
                case 4:
                    return highestPitch;
                case 5:
                    return LevelTrack.bitsOf(greatestLevel);
                default:
                    return headAt;
            }
        }

        void forget() {
            notes = 0;
            placesPlayed = 0;
            gaps = 0;
            weights = 0L;
            highestPitch = 0;
            greatestLevel = 0f;
        }
    }

    private static final class Comb {
        final int kind;
        /** Null where a tooth lacks. */
        final Track[] teeth;

        Comb(int kind, int count) {
            this.kind = kind;
            teeth = new Track[count];
        }

        int tell(int what) {
            switch (what) {
                case 0:
                    return kind;
                case 1:
                    return teeth.length;
                case 2:
                    return countLacking();
                default:
                    return countPlaces();
            }
        }

        private int countLacking() {
            int lacking = 0;
            for (int i = 0; i < teeth.length; i++) {
                if (teeth[i] == null) {
                    lacking++;
                }
            }
            return lacking;
        }

        private int countPlaces() {
            int sum = 0;
            for (int i = 0; i < teeth.length; i++) {
                Track track = teeth[i];
                if (track != null) {
                    sum += track.extent;
                }
            }
            return sum;
        }
    }
}
