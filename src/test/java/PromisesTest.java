/** Each promise of the document by its number: ordinary inputs, edges, wrong inputs. */
public final class PromisesTest {
    private static final int BAD = BassRealiser.BAD, NONE = BassRealiser.NONE, FULL = BassRealiser.FULL;
    private static final int LEAST = Integer.MIN_VALUE, MOST = Integer.MAX_VALUE;
    private static int wrong = 0;
    private static int promise = 0;

    private static void due(String call, int got, int want) {
        if (got != want) {
            wrong++;
            System.out.println("promise " + promise + ": " + call + " answered " + got + ", due is " + want);
        }
    }

    public static void main(String[] args) {
        newObject();
        keys();
        chords();
        lessChords();
        figures();
        plainChords();
        ranges();
        homes();
        leaps();
        givenPitches();
        basses();
        workedFigures();
        workedTones();
        workedKinds();
        voicingsOfAChord();
        voicingsInOrder();
        solving();
        solvingAgain();
        notes();
        likeCosts();
        manyRealisings();
        singing();
        faultsOfOneVoicing();
        faultsAtTheEdges();
        faultsOfParallels();
        faultsOfMoves();
        faultsOfSuspensions();
        faultsOfFallingTones();
        sungPieces();
        counts();
        System.out.println(wrong == 0 ? "promises: all answers are as due" : "promises: " + wrong + " answers are not as due");
        if (wrong != 0) {
            System.exit(1);
        }
    }

    /** Bass C3 (48), plain, in C: the chord C E G. */
    private static BassRealiser plainC() {
        BassRealiser x = new BassRealiser();
        x.chord(0, 3, 0);
        return x;
    }

    private static BassRealiser toldOn(int... figures) {
        BassRealiser x = plainC();
        for (int f : figures) {
            x.figure(0, f, 0);
        }
        return x;
    }

    private static void newObject() {
        promise = 1;
        BassRealiser x = new BassRealiser();
        int[] want = {0, 0, 7, 12, 0, 0, 60, 55, 48, 81, 74, 69, 72, 67, 60};
        for (int what = 0; what < want.length; what++) {
            due("count(" + what + ")", x.count(what), want[what]);
        }
        due("solve() of a new one", x.solve(), NONE);
        due("bass(0) of a new one", x.bass(0), BAD);
    }

    private static void keys() {
        promise = 2;
        BassRealiser x = new BassRealiser();
        due("key(3)", x.key(3), 7);
        due("key(-7)", x.key(-7), 10);
        due("key(7)", x.key(7), 0);
        due("key(8)", x.key(8), BAD);
        due("key(-8)", x.key(-8), BAD);
        due("key(LEAST)", x.key(LEAST), BAD);
        due("key(MOST)", x.key(MOST), BAD);
        due("key(0) after wrong ones", x.key(0), 14);
        // The third above letter n is letter n + 2: every letter is looked at once in each key.
        for (int letter = 0; letter < 7; letter++) {
            x.chord(letter, 3, 0);
        }
        String sharps = "FCGDAEB", flats = "BEADGCF", names = "CDEFGAB";
        for (int fifths = -7; fifths <= 7; fifths++) {
            x.key(fifths);
            for (int i = 0; i < 7; i++) {
                char name = names.charAt((i + 2) % 7);
                int alter = fifths > 0 ? (sharps.indexOf(name) < fifths ? 1 : 0) : (flats.indexOf(name) < -fifths ? -1 : 0);
                due("alter of " + name + " in key " + fifths, x.worked(i, 0, 3), alter);
            }
        }
    }

    private static void chords() {
        promise = 3;
        BassRealiser x = new BassRealiser();
        int[][] bad = {{-1, 3, 0}, {7, 3, 0}, {0, 0, 0}, {0, 6, 0}, {0, 3, -2}, {0, 3, 2}, {LEAST, 3, 0}, {0, MOST, 0}, {0, 3, LEAST}};
        for (int[] b : bad) {
            due("chord of wrong numbers", x.chord(b[0], b[1], b[2]), BAD);
        }
        due("chord(0, 1, -1)", x.chord(0, 1, -1), 0);
        due("chord(6, 5, 1)", x.chord(6, 5, 1), 1);
        for (int i = 2; i < 12; i++) {
            due("chord " + i, x.chord(0, 3, 0), i);
        }
        due("chord 12", x.chord(0, 3, 0), FULL);
        due("wrong chord of a full piece", x.chord(7, 3, 0), BAD);
        due("count(0)", x.count(0), 12);
        x.figure(11, 6, 1);
        x.given(11, 2, 60);
        x.sing(11, 72, 67, 64);
        x.less();
        due("chord 11 again", x.chord(0, 3, 0), 11);
        due("figures of the new one", x.worked(11, 1, 0), 5);
        due("fault of the new one", x.fault(11), NONE);
        due("given of the new one", x.given(11, 2, -1), NONE);
    }

    private static void lessChords() {
        promise = 4;
        BassRealiser x = new BassRealiser();
        due("less() of none", x.less(), NONE);
        x.chord(0, 3, 0);
        x.chord(4, 2, 0);
        x.figure(1, 7, 0);
        x.sing(1, 71, 65, 62);
        x.given(1, 0, 71);
        x.given(1, 1, 65);
        due("less()", x.less(), 1);
        due("figures told", x.count(1), 0);
        due("chords sung", x.count(4), 0);
        due("pitches given", x.count(5), 0);
        due("the chord that went", x.bass(1), BAD);
        due("less() of the last", x.less(), 0);
        due("less() of none again", x.less(), NONE);
    }

    private static void figures() {
        promise = 5;
        BassRealiser x = plainC();
        due("no such chord", x.figure(1, 6, 0), BAD);
        due("no such chord", x.figure(-1, 6, 0), BAD);
        due("figure 1", x.figure(0, 1, 0), BAD);
        due("figure 10", x.figure(0, 10, 0), BAD);
        due("figure MOST", x.figure(0, MOST, 0), BAD);
        due("figure 33", x.figure(0, 33 + 2, 0), BAD);
        due("sign -1", x.figure(0, 6, -1), BAD);
        due("sign 4", x.figure(0, 6, 4), BAD);
        due("6", x.figure(0, 6, 1), 2);
        due("6 with another sign", x.figure(0, 6, 2), 2);
        due("its sign", x.worked(0, 1, 1), 2);
        due("told once", x.count(1), 1);
        due("6 and 4", x.figure(0, 4, 0), 2);
        due("6, 4, 3", x.figure(0, 3, 0), 3);
        due("6, 4, 3, 2", x.figure(0, 2, 0), FULL);
        due("6, 4, 3, 5", x.figure(0, 5, 0), FULL);
        due("told after FULL", x.count(1), 3);
        due("another sign where three are worked", x.figure(0, 3, 3), 3);
        due("wrong sign where it would be FULL", x.figure(0, 2, 4), BAD);
    }

    private static void plainChords() {
        promise = 6;
        BassRealiser x = toldOn(7, 9);
        due("plain(0)", x.plain(0), 2);
        due("plain(0) again", x.plain(0), 0);
        due("worked after plain", x.worked(0, 0, 7), 2);
        due("plain(1)", x.plain(1), BAD);
        due("plain(-1)", x.plain(-1), BAD);
        x.figure(0, 6, 1);
        x.plain(0);
        x.figure(0, 9, 0);
        x.figure(0, 7, 0);
        due("signs have gone, too", x.worked(0, 1, 1), 0);
        x.plain(0);
        x.figure(0, 3, 1);
        x.plain(0);
        due("the sign of an added figure", x.worked(0, 0, 1), 0);
        due("its alter", x.worked(0, 0, 3), 0);
    }

    private static void ranges() {
        promise = 7;
        BassRealiser x = new BassRealiser();
        due("low edge", x.range(0, 0, 24), 1);
        due("high edge", x.range(1, 103, 127), 1);
        due("one pitch", x.range(2, 60, 60), 1);
        int[][] bad = {{-1, 60, 72}, {3, 60, 72}, {0, -1, 20}, {0, 104, 128}, {0, 60, 85}, {0, 61, 60}, {0, LEAST, MOST},
            {0, MOST, LEAST}, {0, 60, MOST}, {LEAST, 60, 72}};
        for (int[] b : bad) {
            due("range(" + b[0] + ", " + b[1] + ", " + b[2] + ")", x.range(b[0], b[1], b[2]), BAD);
        }
        int[] want = {0, 103, 60, 24, 127, 60};
        for (int k = 0; k < 6; k++) {
            due("count(" + (6 + k) + ")", x.count(6 + k), want[k]);
        }
    }

    private static void homes() {
        promise = 8;
        BassRealiser x = plainC();
        due("home(0, 0)", x.home(0, 0), 72);
        due("home(1, 127)", x.home(1, 127), 67);
        due("home(2, 50)", x.home(2, 50), 60);
        due("home(0, 72)", x.home(0, 72), 0);
        due("home(1, 67)", x.home(1, 67), 127);
        due("home(0, -1)", x.home(0, -1), BAD);
        due("home(0, 128)", x.home(0, 128), BAD);
        due("home(3, 60)", x.home(3, 60), BAD);
        due("home(-1, 60)", x.home(-1, 60), BAD);
        x.home(2, 64);
        due("a voicing at home", x.solve(), 0);
        x.home(2, 63);
        due("one beside it", x.solve(), 1);
    }

    private static void leaps() {
        promise = 9;
        BassRealiser x = new BassRealiser();
        due("leap(0)", x.leap(0), 12);
        due("leap(24)", x.leap(24), 0);
        due("leap(25)", x.leap(25), BAD);
        due("leap(-1)", x.leap(-1), BAD);
        due("leap(7)", x.leap(7), 24);
        due("count(3)", x.count(3), 7);
    }

    private static void givenPitches() {
        promise = 10;
        BassRealiser x = plainC();
        due("given(0, 0, 76)", x.given(0, 0, 76), NONE);
        due("given(0, 0, 0)", x.given(0, 0, 0), 76);
        due("given(0, 0, 127)", x.given(0, 0, 127), 0);
        due("given(0, 0, -1)", x.given(0, 0, -1), 127);
        due("given(0, 0, -1) again", x.given(0, 0, -1), NONE);
        int[][] bad = {{1, 0, 60}, {-1, 0, 60}, {0, 3, 60}, {0, -1, 60}, {0, 0, 128}, {0, 0, -2}, {0, 0, LEAST}};
        for (int[] b : bad) {
            due("given of wrong numbers", x.given(b[0], b[1], b[2]), BAD);
        }
        x.given(0, 1, 67);
        x.given(0, 2, 64);
        due("two are given", x.count(5), 2);
        // C, E, G above 67 and at most 12 above it: 67, 72, 76, 79.
        due("voicings above them", x.voicings(0), 4);
        due("the first", x.voicing(0, 0, 0), 67);
        due("the last", x.voicing(0, 3, 0), 79);
    }

    private static void basses() {
        promise = 11;
        BassRealiser x = new BassRealiser();
        x.chord(0, 1, -1);
        x.chord(6, 5, 1);
        int[] steps = {0, 2, 4, 5, 7, 9, 11};
        due("bass(0)", x.bass(0), 23);
        due("bass(1)", x.bass(1), 84);
        for (int letter = 0; letter < 7; letter++) {
            x.chord(letter, 3, 0);
            due("bass of letter " + letter, x.bass(2 + letter), 48 + steps[letter]);
        }
        x.key(4);
        due("the key leaves basses alone", x.bass(5), 53);
        due("bass(-1)", x.bass(-1), BAD);
        due("bass(9)", x.bass(9), BAD);
    }

    /** The numbers of the worked figures, read as one number. */
    private static int workedOn(int... told) {
        BassRealiser x = toldOn(told);
        int read = 0;
        for (int k = 0; k < x.worked(0, 0, 7); k++) {
            read = 10 * read + x.worked(0, k, 0);
        }
        return read;
    }

    private static void workedFigures() {
        promise = 12;
        due("nothing", workedOn(), 35);
        due("2", workedOn(2), 246);
        due("3", workedOn(3), 35);
        due("4", workedOn(4), 45);
        due("5", workedOn(5), 35);
        due("6", workedOn(6), 36);
        due("7", workedOn(7), 357);
        due("8", workedOn(8), 358);
        due("9", workedOn(9), 359);
        due("2 4", workedOn(2, 4), 246);
        due("2 6", workedOn(2, 6), 246);
        due("2 5", workedOn(2, 5), 25);
        due("2 5 3", workedOn(2, 5, 3), 235);
        due("2 5 4", workedOn(2, 5, 4), 245);
        due("2 5 6", workedOn(2, 5, 6), 256);
        due("2 5 3 4 is FULL", workedOn(2, 5, 3, 4), 235);
        due("3 4", workedOn(3, 4), 346);
        due("4 6", workedOn(4, 6), 46);
        due("5 6", workedOn(5, 6), 356);
        due("4 7", workedOn(4, 7), 457);
        due("4 9", workedOn(4, 9), 459);
        due("6 7", workedOn(6, 7), 367);
        due("6 9", workedOn(6, 9), 369);
        due("7 9", workedOn(7, 9), 379);
        due("7 9 4", workedOn(7, 9, 4), 479);
        due("7 8 is FULL", workedOn(7, 8), 357);
        due("8 9 is FULL", workedOn(8, 9), 358);
    }

    private static void workedTones() {
        BassRealiser x = new BassRealiser();
        x.chord(4, 2, 0);
        x.figure(0, 4, 1);
        x.figure(0, 6, 3);
        x.key(-3);
        // On G: C sharp by sign 1; E natural by sign 3 where the key has E flat.
        int[][] want = {{4, 1, 0, 1, 1, 1, 0}, {6, 3, 2, 0, 4, 1, 0}};
        for (int k = 0; k < 2; k++) {
            for (int what = 0; what < 7; what++) {
                due("worked(0, " + k + ", " + what + ")", x.worked(0, k, what), want[k][what]);
            }
        }
        due("how many, whatever k", x.worked(0, MOST, 7), 2);
        due("how many, whatever k", x.worked(0, -1, 7), 2);
        due("k = 2", x.worked(0, 2, 0), BAD);
        due("k = -1", x.worked(0, -1, 0), BAD);
        due("what = 8", x.worked(0, 0, 8), BAD);
        due("what = -1", x.worked(0, 0, -1), BAD);
        due("chord 1", x.worked(1, 0, 7), BAD);
        due("chord -1", x.worked(-1, 0, 0), BAD);
        x.plain(0);
        due("an added figure was not told", x.worked(0, 0, 5), 0);
        due("B flat by the key", x.worked(0, 0, 4), 10);
        x.chord(6, 2, 0);
        x.figure(1, 2, 2);
        due("C flat has class 11", x.worked(1, 0, 4), 11);
        x.plain(1);
        x.figure(1, 8, 1);
        due("B sharp has class 0", x.worked(1, 2, 4), 0);
        x.figure(1, 8, 0);
        due("8 goes by the key, not by the bass", x.worked(1, 2, 3), -1);
    }

    private static void workedKinds() {
        due("9 is suspended", toldOn(9).worked(0, 2, 6), 1);
        due("3 is not", toldOn(9).worked(0, 0, 6), 0);
        due("4 with 5 is suspended", toldOn(4).worked(0, 0, 6), 1);
        due("5 beside it is not", toldOn(4).worked(0, 1, 6), 0);
        due("4 with 2 is not", toldOn(2).worked(0, 1, 6), 0);
        due("4 with 3 is not", toldOn(3, 4).worked(0, 1, 6), 0);
        due("4 with 6 is not", toldOn(4, 6).worked(0, 0, 6), 0);
        due("4 with 2 and 5 is not", toldOn(2, 5, 4).worked(0, 1, 6), 0);
        due("4 with 7 is suspended", toldOn(4, 7).worked(0, 0, 6), 1);
        due("7 falls", toldOn(7).worked(0, 2, 6), 2);
        due("7 beside 9 falls", toldOn(7, 9).worked(0, 1, 6), 2);
        due("9 beside 7 is suspended", toldOn(7, 9).worked(0, 2, 6), 1);
        due("2 is not", toldOn(2).worked(0, 0, 6), 0);
    }

    private static void voicingsOfAChord() {
        promise = 13;
        BassRealiser x = plainC();
        due("voicings(1)", x.voicings(1), BAD);
        due("voicings(-1)", x.voicings(-1), BAD);
        due("C, all ranges as they are", x.voicings(0), 23);
        // Voice 0 on C5 alone, voice 1 C4 .. C5, voice 2 C3 .. C4: E and G must both sound, and
        // G above E3 is 15 apart, so only 72 64 55 is left.
        x.range(0, 72, 72);
        x.range(1, 60, 72);
        x.range(2, 48, 60);
        due("C, narrow", x.voicings(0), 1);
        x.given(0, 2, 52);
        due("nothing with E3 below", x.voicings(0), 0);
        x.given(0, 2, -1);
        // With seven sharps C is LEADING: the bass and voice 0 both have it.
        x.key(7);
        due("C leads", x.voicings(0), 0);
    }

    private static void voicingsInOrder() {
        promise = 14;
        BassRealiser x = plainC();
        x.range(0, 67, 72);
        x.range(1, 60, 67);
        x.range(2, 55, 64);
        // Voice 0: 67 72; voice 1: 60 64 67; voice 2: 55 60 64; with an E and a G.
        int[][] want = {{67, 64, 55}, {67, 64, 60}, {67, 64, 64}, {67, 67, 64}, {72, 64, 55}, {72, 67, 64}};
        int n = 0;
        for (int[] w : want) {
            for (int voice = 0; voice < 3; voice++) {
                due("voicing(0, " + n + ", " + voice + ")", x.voicing(0, n, voice), w[voice]);
            }
            n++;
        }
        due("voicings(0)", x.voicings(0), n);
        due("k too great", x.voicing(0, n, 0), BAD);
        due("k = -1", x.voicing(0, -1, 0), BAD);
        due("voice 3", x.voicing(0, 0, 3), BAD);
        due("voice -1", x.voicing(0, 0, -1), BAD);
        due("chord 1", x.voicing(1, 0, 0), BAD);
        x.range(0, 60, 60);
        x.range(1, 74, 74);
        due("of none", x.voicing(0, 0, 0), BAD);
    }

    private static void solving() {
        promise = 15;
        BassRealiser x = new BassRealiser();
        due("no chords", x.solve(), NONE);
        x.chord(0, 3, 0);
        // From 72 67 60 the nearest with C, E, G is 72 67 64.
        due("C", x.solve(), 4);
        x.chord(3, 3, 0);
        // 72 67 64 to 72 69 65.
        due("C F", x.solve(), 7);
        x.chord(4, 3, 0);
        // then to 71 67 62.
        due("C F G", x.solve(), 13);
        x.chord(0, 3, 0);
        due("C F G C", x.solve(), 16);
        x.figure(3, 9, 0);
        // Its D was there at chord 2, and stays; so it does not fail.
        due("a ninth", x.solve() >= 0 ? 1 : 0, 1);
        x.figure(3, 9, 2);
        due("a ninth that nobody had", x.solve(), -13);
        x.plain(3);
        x.given(2, 0, 73);
        due("chord 2 can't be", x.solve(), -12);
        x.given(1, 0, 73);
        due("nor chord 1", x.solve(), -11);
        x.figure(0, 4, 0);
        due("nor chord 0", x.solve(), -10);
    }

    /** Each kind of telling must undo what solve has found before. */
    private static void solvingAgain() {
        BassRealiser x = plainC();
        due("C", x.solve(), 4);
        x.home(0, 71);
        due("after home", x.solve(), 5);
        x.home(0, 72);
        x.given(0, 0, 76);
        // 76 67 60.
        due("after given", x.solve(), 4);
        due("its voice 0", x.note(0, 0), 76);
        x.given(0, 0, -1);
        x.range(2, 48, 63);
        due("after range", x.solve(), 4);
        due("its voice 0", x.note(0, 0), 76);
        x.key(-3);
        // C E flat G: 72 67 63.
        due("after key", x.solve(), 3);
        x.figure(0, 3, 3);
        due("after figure", x.solve(), 4);
        x.plain(0);
        due("after plain", x.solve(), 3);
        x.chord(0, 3, 0);
        due("after chord", x.solve(), 3);
        x.given(1, 0, 75);
        // 75 67 60 at once, which then stays.
        due("after given at chord 1", x.solve(), 3);
        x.leap(0);
        due("after leap", x.solve(), 3);
        x.given(0, 0, 72);
        due("a move of 3 with leap 0", x.solve(), -11);
        x.less();
        due("after less", x.solve(), 3);
    }

    private static void notes() {
        promise = 16;
        BassRealiser x = plainC();
        due("note(0, 0)", x.note(0, 0), 72);
        due("note(0, 1)", x.note(0, 1), 67);
        due("note(0, 2)", x.note(0, 2), 64);
        due("voice 3", x.note(0, 3), BAD);
        due("voice -1", x.note(0, -1), BAD);
        due("chord 1", x.note(1, 0), BAD);
        due("chord -1", x.note(-1, 0), BAD);
        x.given(0, 0, 73);
        due("there is none", x.note(0, 0), NONE);
        due("BAD before NONE", x.note(0, 3), BAD);
        x.less();
        due("no chords", x.note(0, 0), BAD);
    }

    private static void likeCosts() {
        BassRealiser x = plainC();
        x.range(1, 67, 67);
        x.range(2, 64, 64);
        x.home(1, 67);
        x.home(2, 64);
        x.home(0, 74);
        // 72 and 76 are both 2 away: the lesser pitch comes first.
        due("cost of like ones", x.solve(), 2);
        due("the first in ORDER", x.note(0, 0), 72);
        x.chord(0, 3, 0);
        x.given(1, 0, 76);
        // 72 then 76 costs 6, 76 then 76 costs 2.
        due("the row counts, not its beginning", x.solve(), 2);
        due("its voice 0", x.note(0, 0), 76);
        x.less();
        x.chord(0, 3, 0);
        x.chord(0, 3, 0);
        x.given(0, 0, 72);
        x.given(2, 0, 79);
        // 72 .. 79 by way of 72, 76 or 79 costs the same.
        due("cost by the way", x.solve(), 9);
        due("the first on the way", x.note(1, 0), 72);
    }

    private static void manyRealisings() {
        promise = 17;
        BassRealiser x = new BassRealiser();
        due("no chords", x.many(), NONE);
        x.chord(0, 3, 0);
        due("C", x.many(), 23);
        x.range(1, 67, 67);
        x.range(2, 64, 64);
        // Voice 0: 67, 72, 76 or 79. It moves alone, so that each row of them will do.
        int rows = 4;
        due("C, voice 0 free", x.many(), rows);
        for (int i = 1; i < 12; i++) {
            x.chord(0, 3, 0);
            rows *= 4;
            due("C " + (i + 1) + " times", x.many(), rows);
        }
        x.leap(4);
        x.given(0, 0, 67);
        due("from G with leap 4", x.many(), 1);
        x.leap(5);
        x.less();
        x.given(10, 0, 73);
        due("none", x.many(), 0);
        x = plainC();
        for (int i = 1; i < 12; i++) {
            x.chord(0, 3, 0);
        }
        due("more than 1,000,000,000", x.many(), 1_000_000_000);
    }

    private static void singing() {
        promise = 18;
        BassRealiser x = plainC();
        int[][] bad = {{1, 72, 67, 64}, {-1, 72, 67, 64}, {0, 128, 67, 64}, {0, 72, -1, 64}, {0, 72, 67, 128}, {0, -1, 67, 64},
            {0, 72, 128, 64}, {0, 72, 67, -1}, {0, LEAST, 67, 64}};
        for (int[] b : bad) {
            due("sing of wrong numbers", x.sing(b[0], b[1], b[2], b[3]), BAD);
        }
        due("nothing is sung", x.count(4), 0);
        due("sing(0, 0, 127, 0)", x.sing(0, 0, 127, 0), 1);
        due("it is sung", x.count(4), 1);
        due("sing in its place", x.sing(0, 72, 67, 64), 1);
        due("one is sung", x.count(4), 1);
        due("the new one counts", x.fault(0), 0);
    }

    private static int faultOf(BassRealiser x, int i, int a, int b, int c) {
        x.sing(i, a, b, c);
        return x.fault(i);
    }

    private static void faultsOfOneVoicing() {
        promise = 19;
        BassRealiser x = plainC();
        due("fault(0) without singing", x.fault(0), NONE);
        due("fault(1)", x.fault(1), BAD);
        due("fault(-1)", x.fault(-1), BAD);
        due("72 67 64", faultOf(x, 0, 72, 67, 64), 0);
        due("voice 0 too high", faultOf(x, 0, 84, 74, 64), 1);
        due("voice 0 too low", faultOf(x, 0, 59, 55, 52), 1);
        due("voice 1 too high", faultOf(x, 0, 76, 76, 67), 1);
        due("voice 1 too low", faultOf(x, 0, 60, 52, 48), 1);
        due("voice 2 too high", faultOf(x, 0, 76, 72, 72), 1);
        due("voice 2 too low", faultOf(x, 0, 64, 55, 43), 1);
        due("D in voice 0", faultOf(x, 0, 74, 67, 64), 2);
        due("D in voice 1", faultOf(x, 0, 76, 74, 67), 2);
        due("D in voice 2", faultOf(x, 0, 72, 67, 62), 2);
        due("no E", faultOf(x, 0, 72, 67, 60), 3);
        due("no G", faultOf(x, 0, 72, 64, 60), 3);
        due("the bass is C, the voices need none", faultOf(x, 0, 76, 67, 64), 0);
        due("0 below 1", faultOf(x, 0, 64, 67, 60), 4);
        due("1 below 2", faultOf(x, 0, 67, 60, 64), 4);
        due("0 and 1 15 apart", faultOf(x, 0, 79, 64, 60), 5);
        due("1 and 2 15 apart", faultOf(x, 0, 76, 67, 52), 5);
        x.given(0, 1, 64);
        due("another than the given one", faultOf(x, 0, 72, 67, 64), 7);
        due("the given one", faultOf(x, 0, 72, 64, 55), 0);
        x.given(0, 1, 127);
        due("what is given itself may be outside", faultOf(x, 0, 72, 67, 64), 7);
    }

    private static void faultsAtTheEdges() {
        BassRealiser x = plainC();
        due("12 apart above", faultOf(x, 0, 76, 64, 55), 0);
        due("12 apart below", faultOf(x, 0, 72, 67, 55), 3);
        due("12 apart below with E", faultOf(x, 0, 76, 67, 55), 0);
        due("all on one another", faultOf(x, 0, 67, 67, 64), 0);
        x.chord(0, 4, 0);
        due("2 below the bass", faultOf(x, 1, 67, 64, 55), 4);
        due("2 on the bass", faultOf(x, 1, 67, 64, 60), 0);
        x = new BassRealiser();
        x.chord(4, 2, 0);
        due("B twice", faultOf(x, 0, 71, 62, 59), 6);
        due("B once", faultOf(x, 0, 67, 62, 59), 0);
        x.key(1);
        due("B twice where F sharp leads", faultOf(x, 0, 71, 62, 59), 0);
        x.chord(3, 2, 1);
        x.figure(1, 6, 0);
        due("F sharp in the bass and above", faultOf(x, 1, 69, 66, 62), 6);
        // With seven flats LEADING is 7 * -7 + 11, modulo 12: 10, the B flat above G flat.
        x = new BassRealiser();
        x.key(-7);
        x.chord(4, 2, -1);
        due("LEADING below nought", faultOf(x, 0, 70, 61, 58), 6);
    }

    /** Two moves of the voices over a bass that stays: C E G to C F A. */
    private static int faultOverStayingBass(int[] from, int[] to) {
        BassRealiser x = plainC();
        x.chord(0, 3, 0);
        x.figure(1, 6, 0);
        x.figure(1, 4, 0);
        x.sing(0, from[0], from[1], from[2]);
        return faultOf(x, 1, to[0], to[1], to[2]);
    }

    private static void faultsOfParallels() {
        due("fifths of 0 and 1", faultOverStayingBass(new int[] {79, 72, 64}, new int[] {72, 65, 57}), 9);
        due("fifths of 0 and 2", faultOverStayingBass(new int[] {67, 64, 60}, new int[] {72, 69, 65}), 9);
        due("fifths of 1 and 2", faultOverStayingBass(new int[] {76, 67, 60}, new int[] {81, 72, 65}), 9);
        due("octaves of 0 and 1", faultOverStayingBass(new int[] {76, 64, 55}, new int[] {77, 65, 57}), 9);
        due("octaves of 0 and 2", faultOverStayingBass(new int[] {67, 64, 55}, new int[] {69, 65, 57}), 9);
        due("octaves of 1 and 2", faultOverStayingBass(new int[] {76, 67, 55}, new int[] {77, 69, 57}), 9);
        due("neither", faultOverStayingBass(new int[] {76, 67, 60}, new int[] {77, 69, 60}), 0);
        due("voices on the bass's class stay with it", faultOverStayingBass(new int[] {72, 67, 64}, new int[] {72, 69, 65}), 0);
        // The bass goes from 48 to 53.
        BassRealiser x = plainC();
        x.chord(3, 3, 0);
        x.sing(0, 72, 67, 64);
        due("octaves of 0 and the bass", faultOf(x, 1, 77, 69, 60), 9);
        due("fifths of 1 and the bass, the other way", faultOf(x, 1, 69, 60, 57), 9);
        due("neither", faultOf(x, 1, 72, 69, 65), 0);
        x.sing(0, 76, 67, 60);
        due("octaves of 2 and the bass", faultOf(x, 1, 72, 69, 65), 9);
        // And from 53 to 48.
        x = new BassRealiser();
        x.chord(3, 3, 0);
        x.chord(0, 3, 0);
        x.sing(0, 72, 69, 65);
        due("fifths of 0 and the bass", faultOf(x, 1, 67, 64, 60), 9);
        // Crossed at the chord before: 60 less 65 is -5, which is 7 modulo 12.
        x.sing(0, 60, 65, 57);
        due("of what is below nought", faultOf(x, 1, 67, 60, 52), 9);
        // All stay but the bass, which goes down by an octave.
        x = plainC();
        x.chord(0, 2, 0);
        x.sing(0, 72, 67, 64);
        due("only the bass moves", faultOf(x, 1, 72, 67, 64), 0);
    }

    private static void faultsOfMoves() {
        BassRealiser x = plainC();
        x.chord(0, 3, 0);
        x.sing(0, 72, 67, 64);
        x.leap(4);
        due("a move of LEAP", faultOf(x, 1, 76, 67, 64), 0);
        due("a move of more", faultOf(x, 1, 79, 67, 64), 8);
        due("a move down of more", faultOf(x, 1, 67, 67, 64), 8);
        due("voice 2 moves more", faultOf(x, 1, 76, 67, 55), 8);
        x.leap(0);
        due("none moves", faultOf(x, 1, 72, 67, 64), 0);
        x = plainC();
        x.chord(3, 3, 0);
        x.chord(0, 3, 0);
        x.leap(0);
        due("nothing is sung before", faultOf(x, 1, 72, 69, 65), 0);
        x.sing(0, 72, 67, 64);
        due("now something is", x.fault(1), 8);
        due("what is sung later does not count", x.fault(0), 0);
    }

    private static void faultsOfSuspensions() {
        BassRealiser x = toldOn(4);
        due("a fourth at chord 0", faultOf(x, 0, 72, 67, 65), 10);
        x = new BassRealiser();
        x.chord(3, 3, 0);
        x.chord(0, 3, 0);
        x.figure(1, 4, 0);
        x.chord(0, 3, 0);
        x.sing(1, 72, 67, 65);
        due("nothing is sung before", x.fault(1), 0);
        x.sing(0, 72, 69, 65);
        due("prepared", x.fault(1), 0);
        due("down by 1", faultOf(x, 2, 72, 67, 64), 0);
        due("up by 2", faultOf(x, 2, 76, 67, 67), 11);
        due("down by 5", faultOf(x, 2, 76, 67, 60), 11);
        x.figure(2, 4, 0);
        due("stays", faultOf(x, 2, 72, 67, 65), 11);
        x.plain(2);
        x.figure(2, 3, 2);
        due("down by 2", faultOf(x, 2, 72, 67, 63), 0);
        x = plainC();
        x.chord(0, 3, 0);
        x.figure(1, 4, 0);
        x.sing(0, 72, 67, 64);
        due("F where E was", faultOf(x, 1, 72, 67, 65), 10);
        x = new BassRealiser();
        x.chord(1, 3, 0);
        x.chord(0, 3, 0);
        x.figure(1, 9, 0);
        x.sing(0, 74, 65, 57);
        due("a ninth that stays", faultOf(x, 1, 74, 67, 64), 0);
        x.sing(0, 69, 65, 62);
        due("a ninth that moves", faultOf(x, 1, 74, 67, 64), 10);
    }

    private static void faultsOfFallingTones() {
        BassRealiser x = new BassRealiser();
        x.chord(4, 2, 0);
        x.figure(0, 7, 0);
        x.chord(0, 3, 0);
        due("a seventh at chord 0", faultOf(x, 0, 71, 65, 62), 0);
        due("F down by 1", faultOf(x, 1, 67, 64, 60), 0);
        due("F up by 2", faultOf(x, 1, 72, 67, 64), 11);
        due("F down by 5", faultOf(x, 1, 67, 60, 52), 11);
        x.figure(1, 6, 0);
        x.figure(1, 4, 0);
        // C F A: F stays.
        due("F stays", faultOf(x, 1, 72, 65, 57), 0);
        x.plain(1);
        x.figure(1, 3, 2);
        due("F down by 2", faultOf(x, 1, 67, 63, 60), 0);
    }

    private static void sungPieces() {
        promise = 20;
        BassRealiser x = new BassRealiser();
        due("no chords", x.sung(), NONE);
        int[] letters = {0, 3, 4, 0};
        int[][] row = {{72, 67, 64}, {72, 69, 65}, {71, 67, 62}, {72, 67, 64}};
        for (int i = 0; i < 4; i++) {
            x.chord(letters[i], 3, 0);
            due("a chord is not sung yet", x.sung(), NONE);
            x.sing(i, row[i][0], row[i][1], row[i][2]);
            due("cost up to chord " + i, x.sung(), new int[] {4, 7, 13, 16}[i]);
        }
        x.sing(1, 77, 72, 69);
        due("a rule is broken", x.sung(), NONE);
        x.sing(1, 72, 69, 65);
        x.home(2, 64);
        due("homes count", x.sung(), 12);
        x.key(-1);
        due("the key counts: B flat", x.sung(), NONE);
        x = plainC();
        x.sing(0, 76, 67, 60);
        due("not THE BEST, but one", x.sung(), 4);
        x.chord(0, 3, 0);
        x.chord(0, 3, 0);
        x.sing(2, 76, 67, 60);
        due("a gap", x.sung(), NONE);
    }

    private static void counts() {
        promise = 21;
        BassRealiser x = new BassRealiser();
        x.key(-5);
        x.chord(0, 3, 0);
        x.chord(0, 3, 0);
        x.chord(0, 3, 0);
        x.figure(0, 6, 0);
        x.figure(0, 4, 0);
        x.figure(2, 7, 0);
        x.leap(9);
        x.sing(1, 1, 2, 3);
        x.sing(2, 1, 2, 3);
        x.given(0, 0, 0);
        x.given(1, 1, 5);
        x.given(1, 2, 6);
        x.given(2, 0, 7);
        x.given(2, 0, -1);
        for (int voice = 0; voice < 3; voice++) {
            x.range(voice, 50 + voice, 60 + 2 * voice);
            x.home(voice, 30 + voice);
        }
        int[] want = {3, 3, 2, 9, 2, 3, 50, 51, 52, 60, 62, 64, 30, 31, 32};
        for (int what = 0; what < want.length; what++) {
            due("count(" + what + ")", x.count(what), want[what]);
        }
        due("count(15)", x.count(15), BAD);
        due("count(-1)", x.count(-1), BAD);
        due("count(LEAST)", x.count(LEAST), BAD);
        due("count(MOST)", x.count(MOST), BAD);
    }
}
