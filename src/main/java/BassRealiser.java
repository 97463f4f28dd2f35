/**
 * Realises basses with figures: it completes the figures, finds the tones by the key, lists the
 * voicings of three voices above each bass, and picks the row of them that breaks no rule and
 * moves least. What is sung by hand is judged by the same rules.
 *
 * <p>This class looks at the arguments and keeps the chords in their order; the classes inside it
 * know figures and tones (Chord), the rules (Rules, Move) and the search for realisings (Search).
 */
public final class BassRealiser {
    public static final int BAD = -1, NONE = -2, FULL = -3;

    private static final int MOST_CHORDS = 12;
    private static final int MOST_WORKED = 3;
    private static final int MOST_FIFTHS = 7;
    private static final int MOST_LEAP = 24;
    private static final int WIDEST_RANGE = 24;
    private static final int MOST_WAYS = 1_000_000_000;
    private static final int VOICES = 3;
    private static final int LETTERS = 7;
    private static final int OCTAVE = 12;
    private static final int FIFTH = 7;
    private static final int HIGHEST_PITCH = 127;
    private static final int LOWEST_FIGURE = 2;
    private static final int HIGHEST_FIGURE = 9;
    private static final int FIRST_FAILURE = -10;

    /** Stands for a pitch that is not given and for a voicing that is not sung. */
    private static final int NOTHING = -1;

    private static final int[] STEPS = {0, 2, 4, 5, 7, 9, 11};
    private static final int[] SHARPS = {3, 0, 4, 1, 5, 2, 6};
    private static final int[] FLATS = {6, 2, 5, 1, 4, 0, 3};

    private final Search search;
    /** What is told, the search's own. */
    private final Chord[] chords;
    private final Rules rules;
    /** The way that is sung from the chord before. */
    private final Move move;
    private int size;

    public BassRealiser() {
        search = new Search();
        chords = search.chords;
        rules = search.rules;
        move = new Move();
        size = 0;
    }

    // ---- what is told

    public int key(int fifths) {
        if (!within(fifths, -MOST_FIFTHS, MOST_FIFTHS)) {
            return BAD;
        }
        int was = rules.fifths;
        rules.fifths = fifths;
        for (int i = 0; i < size; i++) {
            chords[i].tune(fifths);
        }
        search.forgetAll();
        return was + MOST_FIFTHS;
    }

    public int chord(int letter, int octave, int alter) {
        if (!within(letter, 0, LETTERS - 1) || !within(octave, 1, 5) || !within(alter, -1, 1)) {
            return BAD;
        }
        if (size >= MOST_CHORDS) {
            return FULL;
        }
        chords[size].begin(letter, octave, alter);
        chords[size].tune(rules.fifths);
        search.forgetChord(size);
        size++;
        return size - 1;
    }

    public int less() {
        if (size == 0) {
            return NONE;
        }
        size--;
        search.forgetChord(size);
        return size;
    }

    public int figure(int i, int f, int sign) {
        if (!hasChord(i) || !within(f, LOWEST_FIGURE, HIGHEST_FIGURE) || !within(sign, 0, 3)) {
            return BAD;
        }
        Chord at = chords[i];
        if (Integer.bitCount(Chord.complete(at.told | 1 << f)) > MOST_WORKED) {
            return FULL;
        }
        at.tell(f, sign);
        at.tune(rules.fifths);
        search.forgetChord(i);
        return Integer.bitCount(at.work);
    }

    public int plain(int i) {
        if (!hasChord(i)) {
            return BAD;
        }
        int were = Integer.bitCount(chords[i].told);
        chords[i].untell();
        chords[i].tune(rules.fifths);
        search.forgetChord(i);
        return were;
    }

    public int range(int voice, int low, int high) {
        if (!isVoice(voice) || !isPitch(low) || !isPitch(high)) {
            return BAD;
        }
        if (!within(high - low, 0, WIDEST_RANGE)) {
            return BAD;
        }
        rules.low[voice] = low;
        rules.high[voice] = high;
        search.forgetAll();
        return 1;
    }

    public int home(int voice, int pitch) {
        if (!isVoice(voice) || !isPitch(pitch)) {
            return BAD;
        }
        int was = rules.homes[voice];
        rules.homes[voice] = pitch;
        search.forgetRealising();
        return was;
    }

    public int leap(int n) {
        if (!within(n, 0, MOST_LEAP)) {
            return BAD;
        }
        int was = rules.leap;
        rules.leap = n;
        search.forgetRealising();
        return was;
    }

    public int given(int i, int voice, int pitch) {
        if (!hasChord(i) || !isVoice(voice) || (pitch != NOTHING && !isPitch(pitch))) {
            return BAD;
        }
        int was = chords[i].fixed[voice];
        chords[i].fixed[voice] = pitch;
        search.forgetChord(i);
        return was == NOTHING ? NONE : was;
    }

    // ---- figures and tones

    public int bass(int i) {
        return hasChord(i) ? chords[i].bass : BAD;
    }

    public int worked(int i, int k, int what) {
        if (!hasChord(i) || !within(what, 0, 7)) {
            return BAD;
        }
        Chord at = chords[i];
        int many = Integer.bitCount(at.work);
        if (what == 7) {
            return many;
        }
        return within(k, 0, many - 1) ? at.about(at.nthWorked(k), what, rules.fifths) : BAD;
    }

    public int voicings(int i) {
        return hasChord(i) ? search.listed(i).size : BAD;
    }

    public int voicing(int i, int k, int voice) {
        if (!hasChord(i) || !isVoice(voice)) {
            return BAD;
        }
        Column column = search.listed(i);
        return within(k, 0, column.size - 1) ? pitchOf(column.voicings[k], voice) : BAD;
    }

    // ---- realising

    public int solve() {
        if (size == 0) {
            return NONE;
        }
        search.settle(size);
        return search.failed == NOTHING ? search.cost : FIRST_FAILURE - search.failed;
    }

    public int note(int i, int voice) {
        if (!hasChord(i) || !isVoice(voice)) {
            return BAD;
        }
        search.settle(size);
        return search.failed == NOTHING ? pitchOf(search.best[i], voice) : NONE;
    }

    public int many() {
        if (size == 0) {
            return NONE;
        }
        search.settle(size);
        return search.ways;
    }

    // ---- singing

    public int sing(int i, int a, int b, int c) {
        if (!hasChord(i) || !isPitch(a) || !isPitch(b) || !isPitch(c)) {
            return BAD;
        }
        chords[i].handmade = pack(a, b, c);
        return 1;
    }

    public int fault(int i) {
        if (!hasChord(i)) {
            return BAD;
        }
        return chords[i].handmade == NOTHING ? NONE : faultAt(i);
    }

    /** Nothing can be sung without chords, so that a piece without chords has no cost. */
    public int sung() {
        if (size == 0) {
            return NONE;
        }
        int cost = 0;
        for (int i = 0; i < size; i++) {
            int now = chords[i].handmade;
            if (now == NOTHING || faultAt(i) != 0) {
                return NONE;
            }
            cost += i == 0 ? rules.farFromHome(now) : moveTo(i).length();
        }
        return cost;
    }

    public int count(int what) {
        if (within(what, 6, 8)) {
            return rules.low[what - 6];
        }
        if (within(what, 9, 11)) {
            return rules.high[what - 9];
        }
        if (within(what, 12, 14)) {
            return rules.homes[what - 12];
        }
        switch (what) {
            case 0: return size;
            case 1: return figuresTold();
            case 2: return rules.fifths + MOST_FIFTHS;
            case 3: return rules.leap;
            case 4: return chordsSung();
            case 5: return pitchesGiven();
            default: return BAD;
        }
    }

    private int faultAt(int i) {
        Chord now = chords[i];
        int rule = rules.ofVoicing(now, now.handmade);
        if (rule != 0) {
            return rule;
        }
        if (i == 0) {
            return rules.ofStart(now, now.handmade);
        }
        if (chords[i - 1].handmade == NOTHING) {
            return 0;
        }
        return moveTo(i).rule(rules.leap);
    }

    private Move moveTo(int i) {
        move.leave(chords[i - 1], chords[i - 1].handmade);
        move.arrive(chords[i], chords[i].handmade);
        return move;
    }

    private int figuresTold() {
        int told = 0;
        for (int i = 0; i < size; i++) {
            told += Integer.bitCount(chords[i].told);
        }
        return told;
    }

    private int chordsSung() {
        int sung = 0;
        for (int i = 0; i < size; i++) {
            if (chords[i].handmade != NOTHING) {
                sung++;
            }
        }
        return sung;
    }

    private int pitchesGiven() {
        int given = 0;
        for (int i = 0; i < size; i++) {
            for (int voice = 0; voice < VOICES; voice++) {
                if (chords[i].fixed[voice] != NOTHING) {
                    given++;
                }
            }
        }
        return given;
    }

    private boolean hasChord(int i) {
        return i >= 0 && i < size;
    }

    private static boolean isVoice(int voice) {
        return voice >= 0 && voice < VOICES;
    }

    private static boolean isPitch(int pitch) {
        return pitch >= 0 && pitch <= HIGHEST_PITCH;
    }

    private static boolean within(int n, int least, int most) {
        return n >= least && n <= most;
    }

    /** A voicing in one number, seven bits a pitch, so that the ORDER of voicings is that of the numbers. */
    private static int pack(int a, int b, int c) {
        return a << 14 | b << 7 | c;
    }

    private static int pitchOf(int voicing, int voice) {
        return voicing >> 7 * (VOICES - 1 - voice) & HIGHEST_PITCH;
    }

    /** A set of one class, of a pitch from 0; sets of classes are joined by |. */
    private static int classBit(int pitch) {
        return 1 << pitch % OCTAVE;
    }

    private static int keyAlter(int letter, int fifths) {
        int[] row = fifths > 0 ? SHARPS : FLATS;
        int signs = Math.min(Math.abs(fifths), row.length);
        for (int k = 0; k < signs; k++) {
            if (row[k] == letter) {
                return fifths > 0 ? 1 : -1;
            }
        }
        return 0;
    }

    /** A bass with its figures, and what is given and sung above it. */
    private static final class Chord {
        static final int NEITHER = 0;
        static final int SUSPENDED = 1;
        static final int FALLING = 2;

        int letter;
        int bass;
        /** Figures told and figures worked: f is in the set if bit f is. */
        int told;
        int work;
        final int[] signs;
        final int[] fixed;
        int handmade;
        /** Sets of classes, which hold for the key of the last tune; the second has the bass's, too. */
        int toneClasses;
        int classes;
        int suspended;
        int falling;

        Chord() {
            signs = new int[HIGHEST_FIGURE + 1];
            fixed = new int[VOICES];
            handmade = NOTHING;
        }

        void begin(int itsLetter, int octave, int alter) {
            letter = itsLetter;
            bass = OCTAVE * (octave + 1) + STEPS[itsLetter] + alter;
            handmade = NOTHING;
            for (int voice = 0; voice < VOICES; voice++) {
                fixed[voice] = NOTHING;
            }
            untell();
        }

        void tell(int f, int sign) {
            told |= 1 << f;
            signs[f] = sign;
        }

        void untell() {
            told = 0;
            for (int f = 0; f <= HIGHEST_FIGURE; f++) {
                signs[f] = 0;
            }
        }

        /** Must follow each change of the bass, the figures and the key. */
        void tune(int fifths) {
            work = complete(told);
            toneClasses = 0;
            suspended = 0;
            falling = 0;
            for (int f = LOWEST_FIGURE; f <= HIGHEST_FIGURE; f++) {
                if (!has(work, f)) {
                    continue;
                }
                int tone = 1 << toneClass(f, fifths);
                toneClasses |= tone;
                suspended |= kind(f) == SUSPENDED ? tone : 0;
                falling |= kind(f) == FALLING ? tone : 0;
            }
            classes = toneClasses | classBit(bass);
        }

        static int complete(int told) {
            boolean second = has(told, 2) && !has(told, 5);
            boolean threeFour = has(told, 3) && has(told, 4);
            boolean sevenNine = has(told, 7) && has(told, 9);
            int work = told;
            if (!has(told, 2) && !has(told, 4)) {
                work |= 1 << 3;
            }
            if (second) {
                work |= 1 << 4;
            }
            if (!has(told, 2) && !has(told, 6) && !threeFour && !sevenNine) {
                work |= 1 << 5;
            }
            if (second || threeFour) {
                work |= 1 << 6;
            }
            return work;
        }

        static boolean has(int figures, int f) {
            return (figures & 1 << f) != 0;
        }

        int nthWorked(int k) {
            int lesser = 0;
            for (int f = LOWEST_FIGURE; f <= HIGHEST_FIGURE; f++) {
                if (has(work, f)) {
                    if (lesser == k) {
                        return f;
                    }
                    lesser++;
                }
            }
            return LOWEST_FIGURE;
        }

        /** What the face's worked tells of one figure. */
        int about(int f, int what, int fifths) {
            switch (what) {
                case 0: return f;
                case 1: return signs[f];
                case 2: return toneLetter(f);
                case 3: return toneAlter(f, fifths);
                case 4: return toneClass(f, fifths);
                case 5: return has(told, f) ? 1 : 0;
                default: return kind(f);
            }
        }

        int toneLetter(int f) {
            return (letter + f - 1) % LETTERS;
        }

        int toneAlter(int f, int fifths) {
            switch (signs[f]) {
                case 1: return 1;
                case 2: return -1;
                case 3: return 0;
                default: return keyAlter(toneLetter(f), fifths);
            }
        }

        int toneClass(int f, int fifths) {
            return Math.floorMod(STEPS[toneLetter(f)] + toneAlter(f, fifths), OCTAVE);
        }

        int kind(int f) {
            if (f == 7) {
                return FALLING;
            }
            boolean bareFourth = f == 4 && !has(work, 2) && !has(work, 3) && !has(work, 6);
            return f == 9 || bareFourth ? SUSPENDED : NEITHER;
        }

        boolean takes(int pitch) {
            return (classBit(pitch) & classes) != 0;
        }
    }

    /** What is told for the whole piece, and the rules for a voicing by itself. */
    private static final class Rules {
        final int[] low;
        final int[] high;
        final int[] homes;
        int leap;
        int fifths;

        Rules() {
            low = new int[] {60, 55, 48};
            high = new int[] {81, 74, 69};
            homes = new int[] {72, 67, 60};
            leap = 12;
            fifths = 0;
        }

        int farFromHome(int voicing) {
            int far = 0;
            for (int voice = 0; voice < VOICES; voice++) {
                far += Math.abs(pitchOf(voicing, voice) - homes[voice]);
            }
            return far;
        }

        /** The first of rules 1 to 7 that is broken, or 0. */
        int ofVoicing(Chord chord, int voicing) {
            int a = pitchOf(voicing, 0);
            int b = pitchOf(voicing, 1);
            int c = pitchOf(voicing, 2);
            if (outside(0, a) || outside(1, b) || outside(2, c)) {
                return 1;
            }
            int sounding = classBit(a) | classBit(b) | classBit(c);
            if ((sounding & ~chord.classes) != 0) {
                return 2;
            }
            if ((chord.toneClasses & ~(sounding | classBit(chord.bass))) != 0) {
                return 3;
            }
            if (a < b || b < c || c < chord.bass) {
                return 4;
            }
            if (Math.abs(a - b) > OCTAVE || Math.abs(b - c) > OCTAVE) {
                return 5;
            }
            if (leadingOnes(chord.bass, a, b, c) > 1) {
                return 6;
            }
            return strays(chord, voicing) ? 7 : 0;
        }

        private boolean outside(int voice, int pitch) {
            return pitch < low[voice] || pitch > high[voice];
        }

        private int leadingOnes(int bass, int a, int b, int c) {
            int leading = Math.floorMod(FIFTH * fifths + 11, OCTAVE);
            int ones = bass % OCTAVE == leading ? 1 : 0;
            ones += a % OCTAVE == leading ? 1 : 0;
            ones += b % OCTAVE == leading ? 1 : 0;
            ones += c % OCTAVE == leading ? 1 : 0;
            return ones;
        }

        private static boolean strays(Chord chord, int voicing) {
            for (int voice = 0; voice < VOICES; voice++) {
                int fixed = chord.fixed[voice];
                if (fixed != NOTHING && fixed != pitchOf(voicing, voice)) {
                    return true;
                }
            }
            return false;
        }

        /** Rule 10 as it holds at the first chord, where nothing can have been prepared; or 0. */
        int ofStart(Chord chord, int voicing) {
            for (int voice = 0; voice < VOICES; voice++) {
                if ((classBit(pitchOf(voicing, voice)) & chord.suspended) != 0) {
                    return 10;
                }
            }
            return 0;
        }
    }

    /** The way from a voicing to one of the next chord; one object serves for all ways in turn. */
    private static final class Move {
        private static final int FOUR = VOICES + 1;

        /** The voices and, last, the bass. */
        private final int[] from;
        private final int[] to;
        private final int[] steps;
        private int wasSuspended;
        private int wasFalling;
        private int isSuspended;

        Move() {
            from = new int[FOUR];
            to = new int[FOUR];
            steps = new int[FOUR];
        }

        void leave(Chord chord, int voicing) {
            for (int voice = 0; voice < VOICES; voice++) {
                from[voice] = pitchOf(voicing, voice);
            }
            from[VOICES] = chord.bass;
            wasSuspended = chord.suspended;
            wasFalling = chord.falling;
        }

        /** After leave, as often as there are voicings to go to. */
        void arrive(Chord chord, int voicing) {
            for (int voice = 0; voice < VOICES; voice++) {
                to[voice] = pitchOf(voicing, voice);
                steps[voice] = to[voice] - from[voice];
            }
            to[VOICES] = chord.bass;
            steps[VOICES] = to[VOICES] - from[VOICES];
            isSuspended = chord.suspended;
        }

        /** How far the voices move, together. */
        int length() {
            return Math.abs(steps[0]) + Math.abs(steps[1]) + Math.abs(steps[2]);
        }

        /** The first of rules 8 to 11 that is broken, or 0. */
        int rule(int leap) {
            if (leaps(leap)) {
                return 8;
            }
            if (hasParallels()) {
                return 9;
            }
            if (isSuspended != 0 && unprepared()) {
                return 10;
            }
            return (wasSuspended | wasFalling) != 0 && unresolved() ? 11 : 0;
        }

        private boolean leaps(int leap) {
            for (int voice = 0; voice < VOICES; voice++) {
                if (Math.abs(steps[voice]) > leap) {
                    return true;
                }
            }
            return false;
        }

        private boolean hasParallels() {
            for (int upper = 0; upper < VOICES; upper++) {
                if (steps[upper] == 0) {
                    continue;
                }
                for (int lower = upper + 1; lower < FOUR; lower++) {
                    if (steps[lower] != 0 && parallel(upper, lower)) {
                        return true;
                    }
                }
            }
            return false;
        }

        /** Two are as far apart as before, modulo 12, just if their steps are alike modulo 12. */
        private boolean parallel(int upper, int lower) {
            if ((steps[upper] - steps[lower]) % OCTAVE != 0) {
                return false;
            }
            int apart = to[upper] - to[lower];
            return apart % OCTAVE == 0 || (apart - FIFTH) % OCTAVE == 0;
        }

        private boolean unprepared() {
            for (int voice = 0; voice < VOICES; voice++) {
                if (steps[voice] != 0 && (classBit(to[voice]) & isSuspended) != 0) {
                    return true;
                }
            }
            return false;
        }

        private boolean unresolved() {
            for (int voice = 0; voice < VOICES; voice++) {
                int was = classBit(from[voice]);
                if ((was & wasSuspended) != 0 && !within(steps[voice], -2, -1)) {
                    return true;
                }
                if ((was & wasFalling) != 0 && !within(steps[voice], -2, 0)) {
                    return true;
                }
            }
            return false;
        }
    }

    /** The voicings of one chord in ORDER, and what the search finds out about each. */
    private static final class Column {
        /**
         * With three classes voice 0 has at most 7 pitches, and each voice below at most 4 within
         * an octave of the one above; rule 3 leaves fewer with four classes, and two have fewer.
         */
        static final int MOST_VOICINGS = 7 * 4 * 4;

        final int[] voicings;
        /** Whether some row of voicings that breaks no rule leads from the first chord to here. */
        final boolean[] reached;
        /** How many rows lead from here to the last chord, and the least cost of one. */
        final int[] ways;
        final int[] rest;
        int size;
        boolean fresh;

        Column() {
            voicings = new int[MOST_VOICINGS];
            reached = new boolean[MOST_VOICINGS];
            ways = new int[MOST_VOICINGS];
            rest = new int[MOST_VOICINGS];
        }

        /** The loops only leave out what rules 1, 2, 4 and 5 forbid anyway: Rules decides. */
        void list(Chord chord, Rules rules) {
            size = 0;
            for (int a = rules.low[0]; a <= rules.high[0]; a++) {
                if (!chord.takes(a)) {
                    continue;
                }
                int top = Math.min(a, rules.high[1]);
                for (int b = Math.max(a - OCTAVE, rules.low[1]); b <= top; b++) {
                    if (chord.takes(b)) {
                        listBelow(chord, rules, a, b);
                    }
                }
            }
            fresh = true;
        }

        private void listBelow(Chord chord, Rules rules, int a, int b) {
            int bottom = Math.max(chord.bass, Math.max(b - OCTAVE, rules.low[2]));
            int top = Math.min(b, rules.high[2]);
            for (int c = bottom; c <= top; c++) {
                int voicing = pack(a, b, c);
                boolean allowed = chord.takes(c) && rules.ofVoicing(chord, voicing) == 0;
                if (allowed && size < MOST_VOICINGS) {
                    voicings[size] = voicing;
                    size++;
                }
            }
        }

        boolean reachedAtAll() {
            for (int k = 0; k < size; k++) {
                if (reached[k]) {
                    return true;
                }
            }
            return false;
        }
    }

    /** The search for realisings; what it finds is kept until something is told. */
    private static final class Search {
        final Chord[] chords;
        final Rules rules;
        final Column[] columns;
        final Move move;
        final int[] best;
        /** The first chord up to which there is no realising, or NOTHING. */
        int failed;
        int cost;
        int ways;
        private boolean settled;

        Search() {
            chords = new Chord[MOST_CHORDS];
            rules = new Rules();
            columns = new Column[MOST_CHORDS];
            for (int i = 0; i < MOST_CHORDS; i++) {
                chords[i] = new Chord();
                columns[i] = new Column();
            }
            move = new Move();
            best = new int[MOST_CHORDS];
            failed = NOTHING;
        }

        void forgetAll() {
            for (int i = 0; i < MOST_CHORDS; i++) {
                columns[i].fresh = false;
            }
            settled = false;
        }

        void forgetChord(int i) {
            columns[i].fresh = false;
            settled = false;
        }

        void forgetRealising() {
            settled = false;
        }

        Column listed(int i) {
            if (!columns[i].fresh) {
                columns[i].list(chords[i], rules);
            }
            return columns[i];
        }

        /** Forward first, since only so the first chord that fails is found. */
        void settle(int size) {
            if (settled) {
                return;
            }
            settled = true;
            ways = 0;
            cost = 0;
            failed = NOTHING;
            for (int i = 0; i < size; i++) {
                reach(i, listed(i));
                if (!columns[i].reachedAtAll()) {
                    failed = i;
                    return;
                }
            }
            for (int i = size - 1; i >= 0; i--) {
                weigh(i, i == size - 1);
            }
            pickFirst();
            for (int i = 1; i < size; i++) {
                pickNext(i);
            }
        }

        private void reach(int i, Column column) {
            for (int k = 0; k < column.size; k++) {
                int to = column.voicings[k];
                column.reached[k] =
                        i == 0 ? rules.ofStart(chords[0], to) == 0 : reachable(i, to);
            }
        }

        private boolean reachable(int i, int to) {
            Column before = columns[i - 1];
            for (int k = 0; k < before.size; k++) {
                if (!before.reached[k]) {
                    continue;
                }
                move.leave(chords[i - 1], before.voicings[k]);
                move.arrive(chords[i], to);
                if (move.rule(rules.leap) == 0) {
                    return true;
                }
            }
            return false;
        }

        private void weigh(int i, boolean last) {
            Column column = columns[i];
            for (int k = 0; k < column.size; k++) {
                column.rest[k] = 0;
                column.ways[k] = last && column.reached[k] ? 1 : 0;
                if (!last && column.reached[k]) {
                    weighOne(i, k);
                }
            }
        }

        private void weighOne(int i, int k) {
            Column next = columns[i + 1];
            move.leave(chords[i], columns[i].voicings[k]);
            int total = 0;
            int least = 0;
            for (int j = 0; j < next.size; j++) {
                move.arrive(chords[i + 1], next.voicings[j]);
                if (next.ways[j] == 0 || move.rule(rules.leap) != 0) {
                    continue;
                }
                int rest = move.length() + next.rest[j];
                least = total == 0 ? rest : Math.min(least, rest);
                total = joined(total, next.ways[j]);
            }
            columns[i].ways[k] = total;
            columns[i].rest[k] = least;
        }

        /** Both are at most MOST_WAYS, so that their sum is still an int. */
        private static int joined(int some, int more) {
            return Math.min(some + more, MOST_WAYS);
        }

        private void pickFirst() {
            Column column = columns[0];
            for (int k = 0; k < column.size; k++) {
                if (column.ways[k] == 0) {
                    continue;
                }
                int whole = rules.farFromHome(column.voicings[k]) + column.rest[k];
                if (ways == 0 || whole < cost) {
                    cost = whole;
                    best[0] = column.voicings[k];
                }
                ways = joined(ways, column.ways[k]);
            }
        }

        /** Voicings stand in ORDER, so that the first with the least rest is THE BEST one's. */
        private void pickNext(int i) {
            Column column = columns[i];
            move.leave(chords[i - 1], best[i - 1]);
            int least = NOTHING;
            for (int k = 0; k < column.size; k++) {
                move.arrive(chords[i], column.voicings[k]);
                if (column.ways[k] == 0 || move.rule(rules.leap) != 0) {
                    continue;
                }
                int rest = move.length() + column.rest[k];
                if (least == NOTHING || rest < least) {
                    least = rest;
                    best[i] = column.voicings[k];
                }
            }
        }
    }
}
