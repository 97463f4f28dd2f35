/** What is empty, what is full, what goes and what stays: the promises where nothing is refused. */
public final class LimitsTest {
    private static final int NONE = Checks.NONE;

    public static void main(String[] args) {
        newObject();
        objectsApart();
        keyAnswersWhatItWas();
        chordNumbers();
        aNewChordHasNothing();
        lessTakesAll();
        lessLeavesTheOthers();
        plainCountsWhatWasTold();
        plainLeavesTheRest();
        widestAndNarrowestRanges();
        homeAnswersWhatItWas();
        leapAnswersWhatItWas();
        givenAnswersWhatItWas();
        voicingsOfNone();
        theMostVoicings();
        solveOfNothingToMove();
        solveFailsAtEachChord();
        solveFailsAtTheFirstOfSeveral();
        solveFailsBetweenChords();
        solveAfterTheChordThatFailed();
        notesAtAllChords();
        manyNoneAndOne();
        manyUpToTheLimit();
        manyFarBeyondTheLimit();
        singInPlaceOfAnother();
        faultWithNothingSungBefore();
        faultJudgesByWhatIsToldNow();
        sungOfEveryLength();
        countsOfAFullPiece();
        the512thCall();
        Checks.end("limits");
    }

    private static void newObject() {
        Checks.sentence("1: No CHORDS; FIFTHS 0; RANGES 60 .. 81, 55 .. 74, 48 .. 69, HOMES 72, 67, 60; LEAP 12");
        BassRealiser x = new BassRealiser();
        int[] want = {0, 0, 7, 12, 0, 0, 60, 55, 48, 81, 74, 69, 72, 67, 60};
        for (int what = 0; what < want.length; what++) {
            Checks.due("count(" + what + ")", x.count(what), want[what]);
        }
        Checks.due("chord", x.chord(0, 3, 0), 0);
        Checks.due("nothing is sung", x.fault(0), NONE);
        Checks.due("nothing is given", x.given(0, 0, -1), NONE);
    }

    private static void objectsApart() {
        Checks.sentence("1: a new object has nothing of another one");
        Checks.piece();
        BassRealiser x = new BassRealiser();
        BassRealiser y = Checks.piece();
        Checks.must(Checks.answers(x).equals(Checks.answers(new BassRealiser())), "another object's calls show");
        Checks.due("solve()", y.solve(), 22);
    }

    private static void keyAnswersWhatItWas() {
        Checks.sentence("2: FIFTHS: what they were, and 7");
        BassRealiser x = new BassRealiser();
        int was = 0;
        for (int fifths : new int[] {-7, 7, -7, -1, 0, 1, 7, 0}) {
            Checks.due("key(" + fifths + ")", x.key(fifths), was + 7);
            Checks.due("count(2)", x.count(2), fifths + 7);
            was = fifths;
        }
        Checks.sentence("2: a CHORD that comes later has the key's signs, too");
        x.key(7);
        x.chord(0, 3, 0);
        Checks.due("alter of its third", x.worked(0, 0, 3), 1);
    }

    private static void chordNumbers() {
        Checks.sentence("3: its number; CHORDS 0, 1, .. , 11 at most");
        BassRealiser x = new BassRealiser();
        for (int i = 0; i < 12; i++) {
            Checks.due("chord", x.chord(i % 7, 1 + i % 5, i % 3 - 1), i);
            Checks.due("count(0)", x.count(0), i + 1);
        }
        int[] steps = {0, 2, 4, 5, 7, 9, 11};
        for (int i = 0; i < 12; i++) {
            Checks.due("bass(" + i + ")", x.bass(i), 12 * (i % 5) + 24 + steps[i % 7] + i % 3 - 1);
        }
    }

    private static void aNewChordHasNothing() {
        Checks.sentence("3: with this BASS, without FIGURES, nothing GIVEN, where another one has gone");
        BassRealiser x = Checks.piece();
        x.figure(3, 4, 1);
        x.less();
        Checks.due("chord", x.chord(2, 3, 0), 3);
        Checks.due("bass", x.bass(3), 52);
        Checks.due("worked", x.worked(3, 0, 7), 2);
        Checks.due("its third's sign", x.worked(3, 0, 1), 0);
        Checks.due("told, of chord 2 alone", x.count(1), 2);
        Checks.due("given, at chord 0 alone", x.count(5), 1);
        Checks.due("sung, at chords 0 to 2", x.count(4), 3);
        Checks.due("fault", x.fault(3), NONE);
        for (int voice = 0; voice < 3; voice++) {
            Checks.due("given", x.given(3, voice, 60), NONE);
        }
    }

    private static void lessTakesAll() {
        Checks.sentence("4: The last CHORD goes, what was SUNG and GIVEN there, too: how many are left");
        BassRealiser x = Checks.piece();
        int[][] after = {{3, 2, 3, 1}, {2, 0, 2, 1}, {1, 0, 1, 1}, {0, 0, 0, 0}};
        for (int[] want : after) {
            Checks.due("less()", x.less(), want[0]);
            Checks.due("count(0)", x.count(0), want[0]);
            Checks.due("count(1)", x.count(1), want[1]);
            Checks.due("count(4)", x.count(4), want[2]);
            Checks.due("count(5)", x.count(5), want[3]);
        }
    }

    private static void lessLeavesTheOthers() {
        Checks.sentence("4: the others stay as if it had never been");
        BassRealiser x = Checks.piece();
        x.chord(1, 3, 0);
        x.figure(4, 4, 2);
        x.given(4, 0, 70);
        x.sing(4, 70, 69, 62);
        x.solve();
        x.less();
        Checks.must(Checks.answers(x).equals(Checks.answers(Checks.piece())), "a chord that went has left something");
    }

    private static void plainCountsWhatWasTold() {
        Checks.sentence("6: All FIGURES of a CHORD go: how many were told");
        int[][] told = {{}, {2}, {7, 9}, {3, 4, 6}};
        for (int[] figures : told) {
            BassRealiser x = Checks.plainC();
            for (int f : figures) {
                x.figure(0, f, 1);
            }
            Checks.due("plain(0)", x.plain(0), figures.length);
            Checks.due("plain(0) again", x.plain(0), 0);
            Checks.due("told", x.count(1), 0);
            Checks.due("worked", x.worked(0, 0, 7), 2);
            Checks.due("solve()", x.solve(), 4);
        }
    }

    private static void plainLeavesTheRest() {
        Checks.sentence("6: All FIGURES of a CHORD go, and nothing else");
        BassRealiser x = Checks.piece();
        Checks.due("plain(2)", x.plain(2), 2);
        Checks.due("told at chord 3", x.count(1), 1);
        Checks.due("sung", x.count(4), 4);
        Checks.due("given", x.count(5), 2);
        Checks.due("bass", x.bass(2), 50);
        Checks.due("plain(3)", x.plain(3), 1);
        Checks.due("given at chord 3", x.given(3, 0, 71), 71);
        Checks.due("sung at chord 3", x.fault(3), 0);
    }

    private static void widestAndNarrowestRanges() {
        Checks.sentence("7: A voice's RANGE (0 .. 127, high at most 24 above low): 1");
        BassRealiser x = new BassRealiser();
        int[][] good = {{0, 0}, {0, 24}, {103, 127}, {127, 127}, {60, 84}, {60, 60}, {60, 61}};
        for (int voice = 0; voice < 3; voice++) {
            for (int[] r : good) {
                Checks.due("range", x.range(voice, r[0], r[1]), 1);
                Checks.due("its lowest", x.count(6 + voice), r[0]);
                Checks.due("its highest", x.count(9 + voice), r[1]);
            }
        }
    }

    private static void homeAnswersWhatItWas() {
        Checks.sentence("8: A voice's HOME (0 .. 127): what it was");
        BassRealiser x = new BassRealiser();
        int[] first = {72, 67, 60};
        for (int voice = 0; voice < 3; voice++) {
            Checks.due("home 0", x.home(voice, 0), first[voice]);
            Checks.due("home 127", x.home(voice, 127), 0);
            Checks.due("home 127 again", x.home(voice, 127), 127);
            Checks.due("count", x.count(12 + voice), 127);
        }
    }

    private static void leapAnswersWhatItWas() {
        Checks.sentence("9: LEAP (0 .. 24): what it was");
        BassRealiser x = new BassRealiser();
        Checks.due("leap(24)", x.leap(24), 12);
        Checks.due("leap(0)", x.leap(0), 24);
        Checks.due("leap(0) again", x.leap(0), 0);
        Checks.due("count(3)", x.count(3), 0);
    }

    private static void givenAnswersWhatItWas() {
        Checks.sentence("10: A PITCH (0 .. 127) is GIVEN for a voice at a CHORD, or none (- 1): what it was (NONE)");
        BassRealiser x = Checks.plainC();
        x.chord(0, 3, 0);
        for (int voice = 0; voice < 3; voice++) {
            Checks.due("none where none was", x.given(0, voice, -1), NONE);
            Checks.due("0", x.given(0, voice, 0), NONE);
            Checks.due("127", x.given(0, voice, 127), 0);
            Checks.due("127 again", x.given(0, voice, 127), 127);
            Checks.due("none", x.given(0, voice, -1), 127);
            Checks.due("none again", x.given(0, voice, -1), NONE);
            Checks.due("a last one", x.given(0, voice, 60 + voice), NONE);
            Checks.due("the other chord has none", x.given(1, voice, -1), NONE);
        }
        Checks.due("how many", x.count(5), 3);
    }

    private static void voicingsOfNone() {
        Checks.sentence("13: How many VOICINGS of a CHORD break none of RULES 1 to 7: none");
        BassRealiser x = Checks.plainC();
        x.range(0, 73, 73);
        Checks.due("voicings(0)", x.voicings(0), 0);
        x.range(0, 72, 72);
        x.range(1, 67, 67);
        x.range(2, 64, 64);
        Checks.due("one is left", x.voicings(0), 1);
        x.range(2, 64, 67);
        Checks.due("67 below 67 lacks E", x.voicings(0), 1);
        Checks.sentence("13: of RULES 1 to 7, not of 8 to 11");
        x.figure(0, 4, 0);
        // F G above C, with F in voice 2.
        Checks.due("a suspended tone at chord 0", x.voicings(0), 1);
    }

    /** The widest ranges, one below the other: counted by all pitches, without the class's own limits. */
    private static void theMostVoicings() {
        Checks.sentence("13: How many VOICINGS, with the widest RANGES");
        for (int low = 36; low < 48; low++) {
            BassRealiser x = new BassRealiser();
            x.chord(0, 1, 0);
            x.range(0, low + 24, low + 48);
            x.range(1, low + 12, low + 36);
            x.range(2, low, low + 24);
            Checks.due("voicings of C E G from " + low, x.voicings(0), counted(low));
        }
    }

    private static int counted(int low) {
        int n = 0;
        for (int a = low + 24; a <= low + 48; a++) {
            for (int b = Math.max(a - 12, low + 12); b <= Math.min(a, low + 36); b++) {
                for (int c = Math.max(b - 12, low); c <= Math.min(b, low + 24); c++) {
                    String classes = "C...E..G....".charAt(a % 12) + "" + "C...E..G....".charAt(b % 12) + "C...E..G....".charAt(c % 12);
                    n += !classes.contains(".") && classes.contains("E") && classes.contains("G") ? 1 : 0;
                }
            }
        }
        return n;
    }

    private static void solveOfNothingToMove() {
        Checks.sentence("15: The COST of THE BEST REALISING: 0 is one");
        BassRealiser x = Checks.plainC();
        x.home(2, 64);
        x.leap(0);
        for (int i = 1; i <= 12; i++) {
            Checks.due("solve() of " + i, x.solve(), 0);
            x.chord(0, 3, 0);
        }
    }

    private static BassRealiser twelve() {
        BassRealiser x = new BassRealiser();
        for (int i = 0; i < 12; i++) {
            x.chord(0, 3, 0);
        }
        return x;
    }

    private static void solveFailsAtEachChord() {
        Checks.sentence("15: - 10 less the first CHORD up to which there is none");
        for (int i = 0; i < 12; i++) {
            BassRealiser x = twelve();
            Checks.due("solve()", x.solve(), 4);
            x.given(i, 1, 66);
            Checks.due("solve() with F sharp at " + i, x.solve(), -10 - i);
            Checks.due("many()", x.many(), 0);
            Checks.due("note(0, 0)", x.note(0, 0), NONE);
            Checks.due("note(11, 2)", x.note(11, 2), NONE);
            x.given(i, 1, -1);
            Checks.due("solve() with none", x.solve(), 4);
        }
    }

    private static void solveFailsAtTheFirstOfSeveral() {
        Checks.sentence("15: the first CHORD, if there are several");
        BassRealiser x = twelve();
        for (int i = 11; i >= 0; i--) {
            x.given(i, 0, 73);
            Checks.due("solve()", x.solve(), -10 - i);
        }
    }

    private static void solveFailsBetweenChords() {
        Checks.sentence("15: up to which there is none, though each CHORD has VOICINGS");
        BassRealiser x = twelve();
        x.leap(0);
        x.given(3, 0, 72);
        x.given(7, 0, 76);
        x.given(9, 0, 79);
        Checks.must(x.voicings(7) > 0, "voicings(7) are none");
        Checks.due("76 after 72 without moves", x.solve(), -17);
        x.leap(3);
        Checks.due("nor by moves of 3", x.solve(), -17);
        x.leap(4);
        Checks.must(x.solve() >= 0, "moves of 4 do not suffice");
        Checks.sentence("15: up to which, not at which: the row must break no RULE from CHORD 0 on");
        x = Checks.plainC();
        x.chord(0, 3, 0);
        x.chord(0, 3, 0);
        x.leap(4);
        x.given(0, 0, 67);
        x.given(1, 1, 67);
        x.given(2, 0, 79);
        // Voice 0 can only stay at 67, so that 79 is too far.
        Checks.due("solve()", x.solve(), -12);
    }

    private static void solveAfterTheChordThatFailed() {
        Checks.sentence("15: once the CHORD that failed has gone, there is one");
        BassRealiser x = Checks.plainC();
        x.chord(0, 3, 0);
        x.given(1, 0, 73);
        Checks.due("solve()", x.solve(), -11);
        x.less();
        Checks.due("solve() without it", x.solve(), 4);
        x.chord(0, 3, 0);
        Checks.due("solve() with a new one", x.solve(), 4);
    }

    private static void notesAtAllChords() {
        Checks.sentence("16: The PITCH of a voice at a CHORD, 0 to 11");
        BassRealiser x = twelve();
        x.given(11, 0, 76);
        x.given(11, 1, 72);
        x.given(11, 2, 67);
        Checks.must(x.solve() > 0, "solve() fails");
        Checks.due("note(11, 0)", x.note(11, 0), 76);
        Checks.due("note(11, 1)", x.note(11, 1), 72);
        Checks.due("note(11, 2)", x.note(11, 2), 67);
        int cost = Math.abs(x.note(0, 0) - 72) + Math.abs(x.note(0, 1) - 67) + Math.abs(x.note(0, 2) - 60);
        for (int i = 1; i < 12; i++) {
            for (int voice = 0; voice < 3; voice++) {
                cost += Math.abs(x.note(i, voice) - x.note(i - 1, voice));
            }
        }
        Checks.due("solve()", x.solve(), cost);
    }

    private static void manyNoneAndOne() {
        Checks.sentence("17: How many REALISINGS: 0 and 1");
        BassRealiser x = twelve();
        for (int voice = 0; voice < 3; voice++) {
            x.given(0, voice, new int[] {72, 67, 64}[voice]);
        }
        x.leap(0);
        Checks.due("nothing moves", x.many(), 1);
        x.given(11, 0, 76);
        Checks.due("it must", x.many(), 0);
    }

    /** Chords with one voicing alone, with two free ones between: the numbers of rows multiply. */
    private static BassRealiser segments(int... basses) {
        BassRealiser x = new BassRealiser();
        x.leap(24);
        for (int k = 0; k < basses.length; k++) {
            if (k % 2 == 0) {
                addFixed(x);
            }
            int i = x.chord(basses[k] / 100, basses[k] / 10 % 10, 0);
            if (basses[k] % 10 != 0) {
                x.figure(i, basses[k] % 10, 0);
            }
        }
        return x;
    }

    private static void addFixed(BassRealiser x) {
        int i = x.chord(0, 3, 0);
        x.given(i, 0, 72);
        x.given(i, 1, 67);
        x.given(i, 2, 64);
    }

    private static int closed(int first, int second) {
        BassRealiser x = segments(first, second);
        addFixed(x);
        return x.many();
    }

    private static void manyUpToTheLimit() {
        // Letter, octave and figure of each free chord.
        Checks.sentence("17: 1,000,000,000 if there are more; here fewer");
        Checks.due("101 rows", closed(338, 536), 101);
        Checks.due("137 rows", closed(536, 626), 137);
        Checks.due("146 rows", closed(432, 26), 146);
        Checks.due("495 rows", segments(30, 226).many(), 495);
        Checks.due("101 * 137 * 146 * 495", segments(338, 536, 536, 626, 432, 26, 30, 226).many(), 999_999_990);
        Checks.sentence("17: 1,000,000,000 if there are more; here as many");
        Checks.due("200 rows", closed(336, 626), 200);
        Checks.due("125 rows", segments(628, 436).many(), 125);
        Checks.due("200 * 200 * 200 * 125", segments(336, 626, 336, 626, 336, 626, 628, 436).many(), 1_000_000_000);
        Checks.sentence("17: 1,000,000,000 if there are more; here more");
        Checks.due("63 rows", closed(338, 630), 63);
        Checks.due("218 rows", closed(36, 422), 218);
        Checks.due("334 rows", closed(26, 28), 334);
        Checks.due("218 rows, open", segments(36, 422).many(), 218);
        Checks.due("63 * 218 * 334 * 218", segments(338, 630, 36, 422, 26, 28, 36, 422).many(), 1_000_000_000);
    }

    private static void manyFarBeyondTheLimit() {
        Checks.sentence("17: 1,000,000,000 if there are more, far more than an int holds");
        BassRealiser x = new BassRealiser();
        x.leap(24);
        for (int voice = 0; voice < 3; voice++) {
            x.range(voice, 60 - 12 * voice, 84 - 12 * voice);
        }
        int before = 0;
        for (int i = 0; i < 12; i++) {
            x.chord(0, 1, 0);
            int rows = x.many();
            Checks.must(rows >= before && rows > 0 && rows <= 1_000_000_000, i + 1 + " chords have " + rows);
            before = rows;
        }
        Checks.due("many()", x.many(), 1_000_000_000);
        Checks.must(x.solve() >= 0, "solve() fails");
    }

    private static void singInPlaceOfAnother() {
        Checks.sentence("18: A VOICING is SUNG at a CHORD (PITCHES 0 .. 127), in place of another one: 1");
        BassRealiser x = Checks.plainC();
        Checks.due("0 0 0", x.sing(0, 0, 0, 0), 1);
        Checks.due("its fault", x.fault(0), 1);
        Checks.due("127 127 127", x.sing(0, 127, 127, 127), 1);
        Checks.due("its fault", x.fault(0), 1);
        Checks.due("72 67 64", x.sing(0, 72, 67, 64), 1);
        Checks.due("its fault", x.fault(0), 0);
        Checks.due("its cost", x.sung(), 4);
        Checks.due("76 67 64", x.sing(0, 76, 67, 64), 1);
        Checks.due("its cost", x.sung(), 8);
        Checks.due("one is sung", x.count(4), 1);
        Checks.due("what is sung changes no realising", x.solve(), 4);
    }

    private static void faultWithNothingSungBefore() {
        Checks.sentence("19: 8 to 11 only where the CHORD before has something SUNG, 10 at CHORD 0, too");
        BassRealiser x = new BassRealiser();
        x.chord(3, 3, 0);
        x.chord(0, 3, 0);
        x.figure(1, 4, 0);
        x.chord(0, 3, 0);
        x.leap(0);
        x.sing(2, 79, 72, 64);
        x.sing(0, 60, 57, 53);
        Checks.due("at chord 2, with a gap before", x.fault(2), 0);
        x.sing(1, 72, 67, 65);
        Checks.due("8 at chord 1", x.fault(1), 8);
        x.leap(24);
        Checks.due("9 at chord 1", x.fault(1), 9);
        x.sing(0, 72, 69, 64);
        Checks.due("10 at chord 1", x.fault(1), 10);
        x.sing(0, 72, 69, 65);
        Checks.due("none at chord 1", x.fault(1), 0);
        Checks.due("none at chord 2, F going to E", x.fault(2), 0);
        x.sing(2, 76, 67, 67);
        Checks.due("11 at chord 2", x.fault(2), 11);
        x.figure(0, 4, 0);
        x.sing(0, 70, 65, 60);
        Checks.due("2 at chord 0", x.fault(0), 2);
        x.key(-1);
        // B flat and C above F.
        Checks.due("10 at chord 0", x.fault(0), 10);
    }

    private static void faultJudgesByWhatIsToldNow() {
        Checks.sentence("19: what is SUNG stays while KEY, RANGE, FIGURES and BASSES around it change");
        BassRealiser x = Checks.plainC();
        x.sing(0, 72, 67, 64);
        Checks.due("in C", x.fault(0), 0);
        x.key(-3);
        Checks.due("in E flat", x.fault(0), 2);
        x.figure(0, 3, 3);
        Checks.due("with a natural", x.fault(0), 0);
        x.plain(0);
        Checks.due("without", x.fault(0), 2);
        x.key(0);
        x.range(1, 60, 66);
        Checks.due("out of range", x.fault(0), 1);
        Checks.due("its cost", x.sung(), NONE);
    }

    private static void sungOfEveryLength() {
        Checks.sentence("20: The COST of what is SUNG, if that is a REALISING");
        BassRealiser x = twelve();
        for (int i = 0; i < 12; i++) {
            Checks.due("without chord " + i, x.sung(), NONE);
            x.sing(i, i % 2 == 0 ? 72 : 76, 67, 64);
        }
        Checks.due("all twelve", x.sung(), 4 + 11 * 4);
        x.leap(3);
        Checks.due("with a lesser leap", x.sung(), NONE);
        x.leap(4);
        Checks.due("with this leap", x.sung(), 48);
        for (int left = 11; left > 0; left--) {
            x.less();
            Checks.due("the cost of " + left, x.sung(), 4 * left);
        }
        x.less();
        Checks.due("of none", x.sung(), NONE);
    }

    private static void countsOfAFullPiece() {
        Checks.sentence("21: counts of all that can be told");
        BassRealiser x = twelve();
        for (int i = 0; i < 12; i++) {
            x.figure(i, 3, 0);
            x.figure(i, 4, 0);
            x.figure(i, 6, 0);
            x.sing(i, 0, 0, 0);
            for (int voice = 0; voice < 3; voice++) {
                x.given(i, voice, 0);
            }
        }
        Checks.due("chords", x.count(0), 12);
        Checks.due("figures", x.count(1), 36);
        Checks.due("sung", x.count(4), 12);
        Checks.due("given", x.count(5), 36);
        for (int i = 0; i < 12; i++) {
            x.less();
        }
        for (int what : new int[] {0, 1, 4, 5}) {
            Checks.due("none of it is left, " + what, x.count(what), 0);
        }
    }

    private static void the512thCall() {
        Checks.sentence("An object is used for at most 512 calls after it has been made");
        BassRealiser x = new BassRealiser();
        x.chord(0, 3, 0);
        for (int call = 2; call <= 510; call++) {
            x.home(0, call % 128);
        }
        Checks.due("the 511th", x.home(0, 72), 510 % 128);
        Checks.due("the 512th", x.solve(), 4);
    }
}
