/**
 * Each refused call that the document names, promise by promise: every argument just inside and just
 * outside of its bounds, and the state left as it was.
 */
public final class RefusalsTest {
    private static final int BAD = Checks.BAD, NONE = Checks.NONE, FULL = Checks.FULL;
    /** The piece has chords 0 .. 3. */
    private static final int LAST = 3;

    private static final Checks.Call KEY = (x, w) -> x.key(w[0]);
    private static final Checks.Call CHORD = (x, w) -> x.chord(w[0], w[1], w[2]);
    private static final Checks.Call LESS = (x, w) -> x.less();
    private static final Checks.Call FIGURE = (x, w) -> x.figure(w[0], w[1], w[2]);
    private static final Checks.Call PLAIN = (x, w) -> x.plain(w[0]);
    private static final Checks.Call RANGE = (x, w) -> x.range(w[0], w[1], w[2]);
    private static final Checks.Call HOME = (x, w) -> x.home(w[0], w[1]);
    private static final Checks.Call LEAP = (x, w) -> x.leap(w[0]);
    private static final Checks.Call GIVEN = (x, w) -> x.given(w[0], w[1], w[2]);
    private static final Checks.Call BASS = (x, w) -> x.bass(w[0]);
    private static final Checks.Call WORKED = (x, w) -> x.worked(w[0], w[1], w[2]);
    private static final Checks.Call VOICINGS = (x, w) -> x.voicings(w[0]);
    private static final Checks.Call VOICING = (x, w) -> x.voicing(w[0], w[1], w[2]);
    private static final Checks.Call SOLVE = (x, w) -> x.solve();
    private static final Checks.Call NOTE = (x, w) -> x.note(w[0], w[1]);
    private static final Checks.Call MANY = (x, w) -> x.many();
    private static final Checks.Call SING = (x, w) -> x.sing(w[0], w[1], w[2], w[3]);
    private static final Checks.Call FAULT = (x, w) -> x.fault(w[0]);
    private static final Checks.Call SUNG = (x, w) -> x.sung();
    private static final Checks.Call COUNT = (x, w) -> x.count(w[0]);

    public static void main(String[] args) {
        thePieceIsAsTheTestsNeedIt();
        newObjectHasNoChords();
        keyIsBad();
        chordIsBad();
        chordIsFull();
        chordIsBadBeforeFull();
        lessIsNone();
        figureIsBad();
        figureIsFull();
        figureIsBadBeforeFull();
        plainIsBad();
        rangeIsBadByVoice();
        rangeIsBadByPitch();
        rangeIsBadByWidth();
        homeIsBad();
        leapIsBad();
        givenIsBad();
        bassIsBad();
        workedIsBad();
        voicingsIsBad();
        voicingIsBad();
        solveIsNone();
        noteIsBad();
        noteIsNone();
        manyIsNone();
        singIsBad();
        faultIsBad();
        faultIsNone();
        sungIsNone();
        countIsBad();
        aChordThatWentIsNoChord();
        Checks.end("refusals");
    }

    /** Else a change that a refused call makes might not be seen. */
    private static void thePieceIsAsTheTestsNeedIt() {
        Checks.sentence("the piece");
        BassRealiser x = Checks.piece();
        Checks.due("solve()", x.solve(), 22);
        Checks.due("sung()", x.sung(), 26);
        Checks.due("count(1)", x.count(1), 3);
        Checks.due("count(4)", x.count(4), 4);
        Checks.due("count(5)", x.count(5), 2);
    }

    private static void newObjectHasNoChords() {
        Checks.sentence("1: No CHORDS");
        Checks.refused("figure", BAD, BassRealiser::new, FIGURE, 0, 6, 0);
        Checks.refused("plain", BAD, BassRealiser::new, PLAIN, 0);
        Checks.refused("given", BAD, BassRealiser::new, GIVEN, 0, 0, 60);
        Checks.refused("bass", BAD, BassRealiser::new, BASS, 0);
        Checks.refused("worked", BAD, BassRealiser::new, WORKED, 0, 0, 7);
        Checks.refused("voicings", BAD, BassRealiser::new, VOICINGS, 0);
        Checks.refused("voicing", BAD, BassRealiser::new, VOICING, 0, 0, 0);
        Checks.refused("note", BAD, BassRealiser::new, NOTE, 0, 0);
        Checks.refused("sing", BAD, BassRealiser::new, SING, 0, 72, 67, 64);
        Checks.refused("fault", BAD, BassRealiser::new, FAULT, 0);
    }

    private static void keyIsBad() {
        Checks.sentence("2: BAD; FIFTHS - 7 .. 7");
        Checks.bounds("key", KEY, Checks.with(0), 0, -7, 7);
    }

    private static void chordIsBad() {
        Checks.sentence("3: BAD: LETTER 0 .. 6");
        Checks.bounds("chord", CHORD, Checks.with(0, 3, 0), 0, 0, 6);
        Checks.sentence("3: BAD: OCTAVE 1 .. 5");
        Checks.bounds("chord", CHORD, Checks.with(0, 3, 0), 1, 1, 5);
        Checks.sentence("3: BAD: ALTER - 1 .. 1");
        Checks.bounds("chord", CHORD, Checks.with(0, 3, 0), 2, -1, 1);
    }

    private static BassRealiser fullPiece() {
        BassRealiser x = Checks.piece();
        for (int i = LAST + 1; i < 12; i++) {
            x.chord(4, 2, 0);
        }
        return x;
    }

    private static void chordIsFull() {
        Checks.sentence("3: FULL: 12");
        BassRealiser x = Checks.piece();
        for (int i = LAST + 1; i < 12; i++) {
            Checks.due("chord " + i, x.chord(0, 3, 0), i);
        }
        Checks.due("count(0)", x.count(0), 12);
        Checks.refused("chord", FULL, RefusalsTest::fullPiece, CHORD, 0, 3, 0);
        x = fullPiece();
        Checks.due("one too many", x.chord(0, 3, 0), FULL);
        Checks.due("less() of a full one", x.less(), 11);
        Checks.due("there is room again", x.chord(1, 4, -1), 11);
        Checks.due("and the new one is there", x.bass(11), 61);
        Checks.due("full again", x.chord(0, 3, 0), FULL);
    }

    private static void chordIsBadBeforeFull() {
        Checks.sentence("3: BAD, FULL: the document names BAD first");
        Checks.refused("chord", BAD, RefusalsTest::fullPiece, CHORD, 7, 3, 0);
        Checks.refused("chord", BAD, RefusalsTest::fullPiece, CHORD, 0, 6, 0);
        Checks.refused("chord", BAD, RefusalsTest::fullPiece, CHORD, 0, 3, 2);
    }

    private static void lessIsNone() {
        Checks.sentence("4: NONE: there is none");
        Checks.refused("less", NONE, BassRealiser::new, LESS);
        BassRealiser x = Checks.piece();
        for (int left = LAST; left >= 0; left--) {
            Checks.due("less()", x.less(), left);
        }
        Checks.due("less() of none", x.less(), NONE);
        Checks.due("count(0)", x.count(0), 0);
        Checks.due("the first chord after it", x.chord(0, 3, 0), 0);
        Checks.due("and it goes, too", x.less(), 0);
    }

    private static void figureIsBad() {
        Checks.sentence("5: BAD: no CHORD");
        Checks.bounds("figure", FIGURE, Checks.with(0, 6, 0), 0, 0, LAST);
        Checks.sentence("5: BAD: f not 2 .. 9");
        Checks.bounds("figure", FIGURE, Checks.with(0, 6, 0), 1, 2, 9);
        Checks.sentence("5: BAD: SIGN not 0 .. 3");
        Checks.bounds("figure", FIGURE, Checks.with(0, 6, 0), 2, 0, 3);
        Checks.bounds("figure that it has", FIGURE, Checks.with(2, 7, 0), 2, 0, 3);
        Checks.sentence("5: BAD: f not 2 .. 9, also where it is one of them modulo 32");
        for (int f = 2; f <= 9; f++) {
            Checks.refused("figure", BAD, Checks::piece, FIGURE, 0, f + 32, 0);
            Checks.refused("figure", BAD, Checks::piece, FIGURE, 0, f - 32, 0);
        }
    }

    private static void figureIsFull() {
        Checks.sentence("5: FULL: there would be more than three");
        // Chord 2 has 3, 5, 7, and chord 3 has 3, 5, 8.
        Checks.refused("figure", FULL, Checks::piece, FIGURE, 2, 8, 0);
        Checks.refused("figure", FULL, Checks::piece, FIGURE, 2, 2, 1);
        Checks.refused("figure", FULL, Checks::piece, FIGURE, 3, 9, 2);
        Checks.refused("figure", FULL, Checks::piece, FIGURE, 3, 7, 3);
        BassRealiser x = Checks.piece();
        Checks.due("three, as 5 goes for 6", x.figure(2, 6, 0), 3);
        Checks.due("three, as 3 goes for 4", x.figure(3, 4, 0), 3);
        Checks.due("three, all told", x.figure(3, 5, 0), 3);
        Checks.due("a fourth", x.figure(3, 6, 0), FULL);
        Checks.due("told in all", x.count(1), 6);
        Checks.sentence("5: also one that it has: another SIGN, where three are WORKED");
        Checks.due("another sign", x.figure(3, 8, 1), 3);
        Checks.due("it has it", x.worked(3, 2, 1), 1);
        Checks.due("no sign again", x.figure(3, 8, 0), 3);
        Checks.due("it has none", x.worked(3, 2, 1), 0);
        Checks.due("told in all, still", x.count(1), 6);
    }

    private static void figureIsBadBeforeFull() {
        Checks.sentence("5: BAD, FULL: the document names BAD first");
        Checks.refused("figure", BAD, Checks::piece, FIGURE, 2, 8, 4);
        Checks.refused("figure", BAD, Checks::piece, FIGURE, 2, 8, -1);
        Checks.refused("figure", BAD, Checks::piece, FIGURE, 2, 10, 0);
    }

    private static void plainIsBad() {
        Checks.sentence("6: BAD");
        Checks.bounds("plain", PLAIN, Checks.with(0), 0, 0, LAST);
    }

    private static void rangeIsBadByVoice() {
        Checks.sentence("7: BAD: VOICES 0, 1, 2");
        Checks.bounds("range", RANGE, Checks.with(0, 60, 72), 0, 0, 2);
    }

    private static void rangeIsBadByPitch() {
        for (int voice = 0; voice < 3; voice++) {
            Checks.sentence("7: BAD: 0 .. 127, the lowest");
            Checks.bounds("range", RANGE, Checks.with(voice, 0, 20), 1, 0, 20);
            Checks.sentence("7: BAD: 0 .. 127, the highest");
            Checks.bounds("range", RANGE, Checks.with(voice, 110, 110), 2, 110, 127);
        }
    }

    private static void rangeIsBadByWidth() {
        Checks.sentence("7: BAD: high at most 24 above low");
        Checks.bounds("range", RANGE, Checks.with(0, 60, 60), 2, 60, 84);
        Checks.bounds("range", RANGE, Checks.with(1, 60, 60), 1, 36, 60);
        Checks.bounds("range", RANGE, Checks.with(2, 0, 0), 2, 0, 24);
        Checks.bounds("range", RANGE, Checks.with(2, 127, 127), 1, 103, 127);
        Checks.sentence("7: BAD: high at most 24 above low, also where the difference is beyond an int");
        Checks.refused("range", BAD, Checks::piece, RANGE, 0, Checks.LEAST, Checks.MOST);
        Checks.refused("range", BAD, Checks::piece, RANGE, 0, Checks.MOST, Checks.LEAST);
        Checks.refused("range", BAD, Checks::piece, RANGE, 0, -10, 10);
        Checks.refused("range", BAD, Checks::piece, RANGE, 0, 120, 140);
    }

    private static void homeIsBad() {
        Checks.sentence("8: BAD: VOICES 0, 1, 2");
        Checks.bounds("home", HOME, Checks.with(0, 60), 0, 0, 2);
        Checks.sentence("8: BAD: 0 .. 127");
        for (int voice = 0; voice < 3; voice++) {
            Checks.bounds("home", HOME, Checks.with(voice, 60), 1, 0, 127);
        }
    }

    private static void leapIsBad() {
        Checks.sentence("9: BAD: 0 .. 24");
        Checks.bounds("leap", LEAP, Checks.with(12), 0, 0, 24);
    }

    private static void givenIsBad() {
        Checks.sentence("10: BAD: no CHORD");
        Checks.bounds("given", GIVEN, Checks.with(0, 0, 60), 0, 0, LAST);
        Checks.sentence("10: BAD: VOICES 0, 1, 2");
        Checks.bounds("given", GIVEN, Checks.with(0, 0, 60), 1, 0, 2);
        Checks.sentence("10: BAD: 0 .. 127, or none (- 1)");
        Checks.bounds("given", GIVEN, Checks.with(0, 1, 60), 2, -1, 127);
        Checks.bounds("given", GIVEN, Checks.with(1, 2, 60), 2, -1, 127);
    }

    private static void bassIsBad() {
        Checks.sentence("11: BAD");
        Checks.bounds("bass", BASS, Checks.with(0), 0, 0, LAST);
    }

    private static void workedIsBad() {
        Checks.sentence("12: BAD: no CHORD");
        Checks.bounds("worked", WORKED, Checks.with(0, 0, 0), 0, 0, LAST);
        Checks.bounds("worked", WORKED, Checks.with(0, 0, 7), 0, 0, LAST);
        Checks.sentence("12: BAD: no WORKED figure k");
        Checks.bounds("worked of two", WORKED, Checks.with(0, 0, 0), 1, 0, 1);
        Checks.bounds("worked of three", WORKED, Checks.with(2, 0, 6), 1, 0, 2);
        Checks.sentence("12: what = 7 (whatever k): how many");
        for (int k : new int[] {Checks.LEAST, -1, 0, 1, 2, 3, Checks.MOST}) {
            Checks.due("of chord 0, k = " + k, Checks.piece().worked(0, k, 7), 2);
            Checks.due("of chord 2, k = " + k, Checks.piece().worked(2, k, 7), 3);
        }
        Checks.sentence("12: BAD: what 0 .. 7");
        Checks.refused("worked", BAD, Checks::piece, WORKED, 2, 0, -1);
        Checks.refused("worked", BAD, Checks::piece, WORKED, 2, 0, 8);
        Checks.refused("worked", BAD, Checks::piece, WORKED, 2, 0, Checks.LEAST);
        Checks.refused("worked", BAD, Checks::piece, WORKED, 2, 0, Checks.MOST);
        Checks.due("what = 0", Checks.piece().worked(2, 0, 0), 3);
        Checks.due("what = 6", Checks.piece().worked(2, 2, 6), 2);
    }

    private static void voicingsIsBad() {
        Checks.sentence("13: BAD");
        Checks.bounds("voicings", VOICINGS, Checks.with(0), 0, 0, LAST);
    }

    private static void voicingIsBad() {
        Checks.sentence("14: BAD: no CHORD");
        Checks.bounds("voicing", VOICING, Checks.with(0, 0, 0), 0, 0, LAST);
        Checks.sentence("14: BAD: no k-th");
        Checks.due("voicings(1)", Checks.piece().voicings(1), 18);
        Checks.bounds("voicing", VOICING, Checks.with(1, 0, 0), 1, 0, 17);
        Checks.due("voicings(0)", Checks.piece().voicings(0), 2);
        Checks.bounds("voicing", VOICING, Checks.with(0, 0, 2), 1, 0, 1);
        Checks.sentence("14: BAD: VOICES 0, 1, 2");
        Checks.bounds("voicing", VOICING, Checks.with(1, 3, 0), 2, 0, 2);
        Checks.sentence("14: BAD: no 0th where there is none");
        Checks.refused("voicing", BAD, RefusalsTest::stuckPiece, VOICING, 2, 0, 0);
        Checks.sentence("14: k counts what is there now, not what was there before");
        BassRealiser x = Checks.piece();
        Checks.must(x.voicing(1, 17, 0) != BAD, "voicing(1, 17, 0) answered BAD");
        x.given(1, 0, 72);
        Checks.due("with voice 0 given", x.voicing(1, 17, 0), BAD);
    }

    /** Chord 2 has no voicing: what is given there is no tone of it. */
    private static BassRealiser stuckPiece() {
        BassRealiser x = Checks.piece();
        x.given(2, 0, 73);
        return x;
    }

    private static BassRealiser emptied() {
        BassRealiser x = Checks.piece();
        for (int i = 0; i <= LAST; i++) {
            x.less();
        }
        return x;
    }

    private static void solveIsNone() {
        Checks.sentence("15: NONE: no CHORDS");
        Checks.refused("solve", NONE, BassRealiser::new, SOLVE);
        Checks.refused("solve", NONE, RefusalsTest::emptied, SOLVE);
    }

    private static void noteIsBad() {
        Checks.sentence("16: BAD: no CHORD");
        Checks.bounds("note", NOTE, Checks.with(0, 0), 0, 0, LAST);
        Checks.sentence("16: BAD: VOICES 0, 1, 2");
        Checks.bounds("note", NOTE, Checks.with(0, 0), 1, 0, 2);
        Checks.sentence("16: BAD before NONE");
        Checks.refused("note", BAD, RefusalsTest::stuckPiece, NOTE, LAST + 1, 0);
        Checks.refused("note", BAD, RefusalsTest::stuckPiece, NOTE, -1, 0);
        Checks.refused("note", BAD, RefusalsTest::stuckPiece, NOTE, 0, 3);
        Checks.refused("note", BAD, RefusalsTest::stuckPiece, NOTE, 0, -1);
        Checks.refused("note", BAD, RefusalsTest::emptied, NOTE, 0, 0);
    }

    private static void noteIsNone() {
        Checks.sentence("16: NONE: there is none, at no CHORD of the row");
        for (int i = 0; i <= LAST; i++) {
            for (int voice = 0; voice < 3; voice++) {
                Checks.refused("note", NONE, RefusalsTest::stuckPiece, NOTE, i, voice);
            }
        }
        BassRealiser x = stuckPiece();
        Checks.due("note(0, 0)", x.note(0, 0), NONE);
        x.given(2, 0, -1);
        Checks.due("note(0, 0) of what is free again", x.note(0, 0), 71);
    }

    private static void manyIsNone() {
        Checks.sentence("17: NONE: no CHORDS");
        Checks.refused("many", NONE, BassRealiser::new, MANY);
        Checks.refused("many", NONE, RefusalsTest::emptied, MANY);
        Checks.sentence("17: none is not NONE, where there are CHORDS");
        Checks.due("many()", stuckPiece().many(), 0);
    }

    private static void singIsBad() {
        Checks.sentence("18: BAD: no CHORD");
        Checks.bounds("sing", SING, Checks.with(0, 74, 67, 59), 0, 0, LAST);
        Checks.sentence("18: BAD: PITCHES 0 .. 127");
        for (int voice = 0; voice < 3; voice++) {
            Checks.bounds("sing", SING, Checks.with(1, 76, 67, 60), 1 + voice, 0, 127);
            Checks.bounds("sing", SING, Checks.with(0, 0, 0, 0), 1 + voice, 0, 127);
            Checks.bounds("sing", SING, Checks.with(0, 127, 127, 127), 1 + voice, 0, 127);
        }
        Checks.sentence("18: BAD: nothing is SUNG then where nothing was");
        for (int[] w : new int[][] {{0, -1, 67, 64}, {0, 72, -1, 64}, {0, 72, 67, -1}, {0, 128, 67, 64}, {0, 72, 128, 64}, {0, 72, 67, 128}}) {
            BassRealiser x = Checks.plainC();
            Checks.due("sing", SING.on(x, w), BAD);
            Checks.due("fault(0)", x.fault(0), NONE);
            Checks.due("count(4)", x.count(4), 0);
        }
    }

    private static void faultIsBad() {
        Checks.sentence("19: BAD");
        Checks.bounds("fault", FAULT, Checks.with(0), 0, 0, LAST);
    }

    private static BassRealiser withAnUnsungEnd() {
        BassRealiser x = Checks.piece();
        x.chord(4, 2, 0);
        return x;
    }

    private static void faultIsNone() {
        Checks.sentence("19: NONE: nothing is SUNG there");
        Checks.refused("fault", NONE, RefusalsTest::withAnUnsungEnd, FAULT, LAST + 1);
        Checks.refused("fault", NONE, Checks::plainC, FAULT, 0);
        BassRealiser x = withAnUnsungEnd();
        Checks.due("something is sung before it", x.fault(LAST), 0);
        x.sing(LAST + 1, 0, 0, 0);
        Checks.due("now something is sung there, even the lowest pitches", x.fault(LAST + 1), 1);
    }

    private static void sungIsNone() {
        Checks.sentence("20: else NONE: a CHORD without anything SUNG");
        Checks.refused("sung", NONE, RefusalsTest::withAnUnsungEnd, SUNG);
        Checks.sentence("20: else NONE: no CHORDS");
        Checks.refused("sung", NONE, BassRealiser::new, SUNG);
        Checks.refused("sung", NONE, RefusalsTest::emptied, SUNG);
        Checks.sentence("20: else NONE: a RULE is broken at the first, at a middle, at the last CHORD");
        for (int i = 0; i <= LAST; i++) {
            BassRealiser x = Checks.piece();
            Checks.due("sung()", x.sung(), 26);
            x.sing(i, 61, 61, 61);
            Checks.due("sung() with chord " + i + " wrong", x.sung(), NONE);
        }
    }

    private static void countIsBad() {
        Checks.sentence("21: BAD: what 0 .. 14");
        Checks.bounds("count", COUNT, Checks.with(0), 0, 0, 14);
    }

    private static void aChordThatWentIsNoChord() {
        Checks.sentence("4: The last CHORD goes; every call with its number is BAD");
        Checks.Making made = () -> {
            BassRealiser x = Checks.piece();
            x.less();
            return x;
        };
        Checks.refused("figure", BAD, made, FIGURE, LAST, 6, 0);
        Checks.refused("plain", BAD, made, PLAIN, LAST);
        Checks.refused("given", BAD, made, GIVEN, LAST, 0, 60);
        Checks.refused("bass", BAD, made, BASS, LAST);
        Checks.refused("worked", BAD, made, WORKED, LAST, 0, 0);
        Checks.refused("worked", BAD, made, WORKED, LAST, 0, 7);
        Checks.refused("voicings", BAD, made, VOICINGS, LAST);
        Checks.refused("voicing", BAD, made, VOICING, LAST, 0, 0);
        Checks.refused("note", BAD, made, NOTE, LAST, 0);
        Checks.refused("sing", BAD, made, SING, LAST, 71, 62, 59);
        Checks.refused("fault", BAD, made, FAULT, LAST);
    }
}
