import java.util.Map;

/** The boundaries that the document's Terms name: notes, the key, figures, tones, and each rule. */
public final class TermsTest {
    private static final int[] STEPS = {0, 2, 4, 5, 7, 9, 11};
    private static final String LETTERS = "CDEFGAB";
    /** For each class a letter, and whether it is sharpened. */
    private static final String CLASSES = "CCDDEFFGGAAB";
    private static final String SHARPENED = ".#.#..#.#.#.";

    /** All sets of figures that may be told, with what is worked then; all others are too many. */
    private static final Map<String, String> WORKED = Map.ofEntries(
        Map.entry("", "35"), Map.entry("2", "246"), Map.entry("3", "35"), Map.entry("4", "45"), Map.entry("5", "35"),
        Map.entry("6", "36"), Map.entry("7", "357"), Map.entry("8", "358"), Map.entry("9", "359"),
        Map.entry("24", "246"), Map.entry("25", "25"), Map.entry("26", "246"), Map.entry("34", "346"),
        Map.entry("35", "35"), Map.entry("36", "36"), Map.entry("37", "357"), Map.entry("38", "358"),
        Map.entry("39", "359"), Map.entry("45", "45"), Map.entry("46", "46"), Map.entry("47", "457"),
        Map.entry("48", "458"), Map.entry("49", "459"), Map.entry("56", "356"), Map.entry("57", "357"),
        Map.entry("58", "358"), Map.entry("59", "359"), Map.entry("67", "367"), Map.entry("68", "368"),
        Map.entry("69", "369"), Map.entry("79", "379"),
        Map.entry("235", "235"), Map.entry("245", "245"), Map.entry("246", "246"), Map.entry("256", "256"),
        Map.entry("257", "257"), Map.entry("258", "258"), Map.entry("259", "259"), Map.entry("346", "346"),
        Map.entry("356", "356"), Map.entry("357", "357"), Map.entry("358", "358"), Map.entry("359", "359"),
        Map.entry("367", "367"), Map.entry("368", "368"), Map.entry("369", "369"), Map.entry("379", "379"),
        Map.entry("456", "456"), Map.entry("457", "457"), Map.entry("458", "458"), Map.entry("459", "459"),
        Map.entry("467", "467"), Map.entry("468", "468"), Map.entry("469", "469"), Map.entry("479", "479"));

    /** Voicings of C E G, in all of which no rule is broken. */
    private static final int[][] OF_C = {{72, 67, 64}, {76, 67, 60}, {76, 64, 55}, {79, 72, 64}, {67, 64, 55}, {67, 64, 60},
        {76, 67, 55}, {76, 67, 67}, {76, 72, 67}, {67, 67, 64}};

    public static void main(String[] args) {
        pitchesOfNotes();
        lettersThatAKeyAlters();
        leadingByKey();
        figuresThatAreWorked();
        addedFiguresHaveNoSign();
        figuresEachOnce();
        lettersRoundBySeven();
        classesOfTones();
        signsBeforeTheKey();
        suspendedAndFalling();
        rule1Range();
        rule1AtTheEndsOfAllPitches();
        rule2Classes();
        rule2TheBassToo();
        rule3EachTone();
        rule3NotThatOfTheBass();
        rule4Below();
        rule4BelowTheBass();
        rule5Apart();
        rule6Leading();
        rule7Given();
        rule8Leap();
        rule8NotTheBass();
        rule9OfTwoVoices();
        rule9OfAVoiceAndTheBass();
        rule10WhereItWas();
        rule10AtChord0();
        rule10NotTheBass();
        rule11Suspended();
        rule11Falling();
        rule11NotWithoutIt();
        rulesInTheirOrder();
        costFromHome();
        costOfMoves();
        orderOfVoicings();
        orderOfRows();
        Checks.end("terms");
    }

    private static void pitchesOfNotes() {
        Checks.sentence("Its PITCH: 12 times (OCTAVE + 1), and 0, 2, 4, 5, 7, 9, 11 by LETTER, and ALTER");
        for (int letter = 0; letter <= 6; letter++) {
            for (int octave = 1; octave <= 5; octave++) {
                for (int alter = -1; alter <= 1; alter++) {
                    BassRealiser x = new BassRealiser();
                    x.chord(letter, octave, alter);
                    Checks.due("bass", x.bass(0), 12 * octave + 12 + STEPS[letter] + alter);
                }
            }
        }
    }

    private static void lettersThatAKeyAlters() {
        Checks.sentence("by it n letters of the row have ALTER 1, or - 1, the others 0");
        for (int n = 1; n <= 7; n++) {
            Checks.due("sharp " + n + " with " + n, alterInKey("FCGDAEB".charAt(n - 1), n), 1);
            Checks.due("sharp " + n + " with one less", alterInKey("FCGDAEB".charAt(n - 1), n - 1), 0);
            Checks.due("flat " + n + " with " + n, alterInKey("BEADGCF".charAt(n - 1), -n), -1);
            Checks.due("flat " + n + " with one less", alterInKey("BEADGCF".charAt(n - 1), 1 - n), 0);
        }
    }

    private static int alterInKey(char letter, int fifths) {
        BassRealiser x = new BassRealiser();
        x.key(fifths);
        // Its third is the letter.
        x.chord((LETTERS.indexOf(letter) + 5) % 7, 3, 0);
        return x.worked(0, 0, 3);
    }

    private static void leadingByKey() {
        Checks.sentence("LEADING is the CLASS 7 times FIFTHS and 11, modulo 12");
        int[] leading = {10, 5, 0, 7, 2, 9, 4, 11, 6, 1, 8, 3, 10, 5, 0};
        for (int fifths = -7; fifths <= 7; fifths++) {
            for (int bassClass = 0; bassClass < 12; bassClass++) {
                int want = leading[fifths + 7] == bassClass ? 6 : 0;
                Checks.due("the bass doubled, class " + bassClass + ", fifths " + fifths, faultOfDoubling(fifths, bassClass), want);
            }
        }
    }

    /** Third and fifth are natural in any key; the bass's class is sung once more, at the top. */
    private static int faultOfDoubling(int fifths, int bassClass) {
        int letter = LETTERS.indexOf(CLASSES.charAt(bassClass));
        BassRealiser x = new BassRealiser();
        x.key(fifths);
        x.chord(letter, 1, SHARPENED.charAt(bassClass) == '#' ? 1 : 0);
        x.figure(0, 3, 3);
        x.figure(0, 5, 3);
        int c = above(47, STEPS[(letter + 2) % 7]);
        int b = above(c, STEPS[(letter + 4) % 7]);
        int a = above(b, bassClass);
        x.range(0, a, a);
        x.range(1, b, b);
        x.range(2, c, c);
        return Checks.fault(x, 0, a, b, c);
    }

    /** The next pitch above one that has a class. */
    private static int above(int pitch, int itsClass) {
        int next = pitch + 1;
        while (next % 12 != itsClass) {
            next++;
        }
        return next;
    }

    /** All orders of telling up to four figures, also those that are told again. */
    private static void figuresThatAreWorked() {
        Checks.sentence("WORKED are these, and those that are added; a CHORD has three WORKED ones at most");
        for (int all = 0; all < 8 * 8 * 8 * 8; all++) {
            BassRealiser x = Checks.plainC();
            String told = "";
            for (int n = 0, rest = all; n < 4; n++, rest /= 8) {
                int f = 2 + rest % 8;
                String more = joined(told, f);
                String worked = WORKED.get(more);
                Checks.due(told + " and " + f, x.figure(0, f, 0), worked == null ? Checks.FULL : worked.length());
                told = worked == null ? told : more;
            }
            Checks.must(workedOn(x).equals(WORKED.get(told)), "with " + told + " there are " + workedOn(x));
            Checks.due("told of " + told, x.count(1), told.length());
            Checks.due("plain of " + told, x.plain(0), told.length());
            Checks.must(workedOn(x).equals("35"), "plain again there are " + workedOn(x));
        }
    }

    private static String joined(String told, int f) {
        StringBuilder more = new StringBuilder();
        for (int n = 2; n <= 9; n++) {
            if (n == f || told.indexOf('0' + n) >= 0) {
                more.append(n);
            }
        }
        return more.toString();
    }

    private static String workedOn(BassRealiser x) {
        StringBuilder all = new StringBuilder();
        for (int k = 0; k < x.worked(0, 0, 7); k++) {
            all.append(x.worked(0, k, 0));
        }
        return all.toString();
    }

    private static BassRealiser toldOnC(String told) {
        return toldOnC(told, 0);
    }

    /** 5 comes first, since beside 2 it makes room for others. */
    private static BassRealiser toldOnC(String told, int sign) {
        BassRealiser x = Checks.plainC();
        if (told.indexOf('5') >= 0) {
            x.figure(0, 5, sign);
        }
        for (char f : told.toCharArray()) {
            x.figure(0, f - '0', sign);
        }
        Checks.due("told of " + told, x.count(1), told.length());
        return x;
    }

    private static void addedFiguresHaveNoSign() {
        Checks.sentence("those that are added, without SIGN, by what is told");
        for (String told : WORKED.keySet()) {
            BassRealiser x = toldOnC(told, 2);
            String worked = WORKED.get(told);
            for (int k = 0; k < worked.length(); k++) {
                boolean was = told.indexOf(worked.charAt(k)) >= 0;
                Checks.due("sign of " + worked.charAt(k) + " with " + told, x.worked(0, k, 1), was ? 2 : 0);
                Checks.due("whether it was told", x.worked(0, k, 5), was ? 1 : 0);
                Checks.due("its alter", x.worked(0, k, 3), was ? -1 : 0);
            }
        }
        Checks.sentence("a figure that goes takes its SIGN along");
        BassRealiser x = Checks.plainC();
        x.figure(0, 5, 1);
        x.figure(0, 3, 2);
        x.plain(0);
        Checks.due("sign of 3", x.worked(0, 0, 1), 0);
        Checks.due("sign of 5", x.worked(0, 1, 1), 0);
    }

    private static void figuresEachOnce() {
        Checks.sentence("FIGURES, numbers 2 .. 9, each once, with a SIGN");
        BassRealiser x = Checks.plainC();
        for (int f = 2; f <= 9; f++) {
            for (int sign = 0; sign <= 3; sign++) {
                x.figure(0, f, sign);
                Checks.due("told, " + f + " again and again", x.count(1), 1);
                int k = workedOn(x).indexOf('0' + f);
                Checks.due("the sign told last", x.worked(0, k, 1), sign);
            }
            x.plain(0);
        }
    }

    private static void lettersRoundBySeven() {
        Checks.sentence("the LETTER that is f - 1 behind that of the BASS (round by seven)");
        for (int letter = 0; letter <= 6; letter++) {
            for (int f = 2; f <= 9; f++) {
                BassRealiser x = new BassRealiser();
                x.chord(letter, 3, 0);
                x.figure(0, f, 0);
                int k = workedOn(x).indexOf('0' + f);
                char want = (LETTERS + LETTERS + LETTERS).charAt(letter + f - 1);
                Checks.due(f + " on " + LETTERS.charAt(letter), x.worked(0, k, 2), LETTERS.indexOf(want));
            }
        }
    }

    private static void classesOfTones() {
        Checks.sentence("of it only its CLASS is used (0, 2, 4 .. by LETTER and ALTER, modulo 12)");
        String sharp = "1 3 5 6 8 10 0", flat = "11 1 3 4 6 8 10", natural = "0 2 4 5 7 9 11";
        String[] bySign = {natural, sharp, flat, natural};
        for (int letter = 0; letter <= 6; letter++) {
            for (int sign = 0; sign <= 3; sign++) {
                BassRealiser x = new BassRealiser();
                x.chord((letter + 5) % 7, 5, 1);
                x.figure(0, 3, sign);
                int want = Integer.parseInt(bySign[sign].split(" ")[letter]);
                Checks.due("class of " + LETTERS.charAt(letter) + " with sign " + sign, x.worked(0, 0, 4), want);
            }
        }
    }

    private static void signsBeforeTheKey() {
        Checks.sentence("with ALTER 1, - 1, 0 by SIGN 1, 2, 3, or by THE KEY without one");
        for (int fifths = -7; fifths <= 7; fifths += 7) {
            BassRealiser x = Checks.plainC();
            x.key(fifths);
            int[] want = {fifths / 7, 1, -1, 0};
            for (int sign = 0; sign <= 3; sign++) {
                x.figure(0, 3, sign);
                Checks.due("alter with sign " + sign + " in " + fifths, x.worked(0, 0, 3), want[sign]);
            }
        }
        Checks.sentence("the BASS has its own ALTER, a TONE of 8 has not");
        BassRealiser x = new BassRealiser();
        x.chord(0, 3, 1);
        x.figure(0, 8, 0);
        Checks.due("alter of 8 above C sharp", x.worked(0, 2, 3), 0);
    }

    private static void suspendedAndFalling() {
        Checks.sentence("SUSPENDED are the TONES of 9, and of 4 if neither 2, nor 3, nor 6 is WORKED; FALLING is that of 7");
        for (String told : WORKED.keySet()) {
            BassRealiser x = toldOnC(told);
            String worked = WORKED.get(told);
            boolean bare = worked.indexOf('2') < 0 && worked.indexOf('3') < 0 && worked.indexOf('6') < 0;
            for (int k = 0; k < worked.length(); k++) {
                char f = worked.charAt(k);
                int want = f == '9' || (f == '4' && bare) ? 1 : f == '7' ? 2 : 0;
                Checks.due(f + " of " + worked, x.worked(0, k, 6), want);
            }
        }
    }

    /** 72 67 64 above C, with one voice's range around its pitch. */
    private static int faultInRange(int voice, int low, int high) {
        BassRealiser x = Checks.plainC();
        x.range(voice, low, high);
        return Checks.fault(x, 0, 72, 67, 64);
    }

    private static void rule1Range() {
        Checks.sentence("1 a voice is outside of its RANGE");
        int[] pitches = {72, 67, 64};
        for (int voice = 0; voice < 3; voice++) {
            int p = pitches[voice];
            Checks.due("the lowest", faultInRange(voice, p, p + 5), 0);
            Checks.due("below the lowest", faultInRange(voice, p + 1, p + 5), 1);
            Checks.due("the highest", faultInRange(voice, p - 5, p), 0);
            Checks.due("above the highest", faultInRange(voice, p - 5, p - 1), 1);
            Checks.due("the only one", faultInRange(voice, p, p), 0);
        }
    }

    private static void rule1AtTheEndsOfAllPitches() {
        Checks.sentence("RANGE 0 .. 127: VOICINGS reach both ends");
        BassRealiser x = Checks.plainC();
        for (int voice = 0; voice < 3; voice++) {
            x.range(voice, 103, 127);
        }
        // 103 is G, 108 is C, 112 is E, .., 124 is E, 127 is G; E and G must be there.
        int last = x.voicings(0) - 1;
        int[] lowest = {112, 103, 103}, highest = {127, 127, 124};
        for (int voice = 0; voice < 3; voice++) {
            Checks.due("the first one's voice " + voice, x.voicing(0, 0, voice), lowest[voice]);
            Checks.due("the last one's voice " + voice, x.voicing(0, last, voice), highest[voice]);
        }
        x = new BassRealiser();
        x.chord(0, 1, -1);
        for (int voice = 0; voice < 3; voice++) {
            x.range(voice, 0, 24);
        }
        Checks.due("below the lowest bass there is none", x.voicings(0), 0);
        Checks.due("127 thrice", Checks.fault(Checks.plainC(), 0, 127, 127, 127), 1);
        Checks.due("0 thrice", Checks.fault(Checks.plainC(), 0, 0, 0, 0), 1);
    }

    private static void rule2Classes() {
        Checks.sentence("2 its CLASS is neither that of the BASS, nor of a TONE");
        BassRealiser x = Checks.plainC();
        Checks.due("as it is", Checks.fault(x, 0, 72, 67, 64), 0);
        for (int off = -1; off <= 1; off += 2) {
            Checks.due("voice 0 beside it", Checks.fault(x, 0, 72 + off, 67, 64), 2);
            Checks.due("voice 1 beside it", Checks.fault(x, 0, 76, 67 + off, 64), 2);
            Checks.due("voice 2 beside it", Checks.fault(x, 0, 72, 67, 64 + off), 2);
        }
    }

    private static void rule2TheBassToo() {
        Checks.sentence("2 .. neither that of the BASS, which no TONE has here");
        BassRealiser x = new BassRealiser();
        x.chord(2, 3, 0);
        x.figure(0, 6, 0);
        Checks.due("E on top of E G C", Checks.fault(x, 0, 76, 67, 60), 0);
        Checks.due("F on top of it", Checks.fault(x, 0, 77, 67, 60), 2);
    }

    private static void rule3EachTone() {
        Checks.sentence("3 the CLASS of some TONE is neither that of the BASS, nor of a voice");
        BassRealiser x = new BassRealiser();
        x.chord(4, 2, 0);
        x.figure(0, 7, 0);
        // B D F above G.
        Checks.due("all three", Checks.fault(x, 0, 65, 62, 59), 0);
        Checks.due("no B", Checks.fault(x, 0, 65, 62, 55), 3);
        Checks.due("no D", Checks.fault(x, 0, 65, 65, 59), 3);
        Checks.due("no F", Checks.fault(x, 0, 67, 62, 59), 3);
    }

    private static void rule3NotThatOfTheBass() {
        Checks.sentence("3 .. neither that of the BASS: then no voice needs it");
        BassRealiser x = Checks.plainC();
        x.figure(0, 8, 0);
        Checks.due("8 without a C above", Checks.fault(x, 0, 76, 67, 64), 0);
        x = new BassRealiser();
        x.chord(0, 3, 1);
        x.figure(0, 8, 0);
        Checks.due("8 is C above C sharp, and is missing", Checks.fault(x, 0, 76, 67, 64), 3);
        Checks.due("and is there", Checks.fault(x, 0, 72, 67, 64), 0);
        x.figure(0, 8, 1);
        Checks.due("8 is C sharp above it", Checks.fault(x, 0, 76, 67, 64), 0);
    }

    /** E F A above C: two tones one apart. */
    private static BassRealiser threeFour() {
        BassRealiser x = Checks.plainC();
        x.figure(0, 3, 0);
        x.figure(0, 4, 0);
        return x;
    }

    private static void rule4Below() {
        Checks.sentence("4 a voice is below the next one");
        Checks.due("0 one below 1", Checks.fault(threeFour(), 0, 64, 65, 57), 4);
        Checks.due("0 one above 1", Checks.fault(threeFour(), 0, 65, 64, 57), 0);
        Checks.due("0 where 1 is", Checks.fault(Checks.plainC(), 0, 67, 67, 64), 0);
        Checks.due("1 one below 2", Checks.fault(threeFour(), 0, 69, 64, 65), 4);
        Checks.due("1 one above 2", Checks.fault(threeFour(), 0, 69, 65, 64), 0);
        Checks.due("1 where 2 is", Checks.fault(Checks.plainC(), 0, 76, 67, 67), 0);
    }

    private static void rule4BelowTheBass() {
        Checks.sentence("4 .. (2: below the BASS)");
        BassRealiser x = new BassRealiser();
        x.chord(3, 3, 0);
        x.figure(0, 7, 0);
        // E A C above F (53), E one below it.
        Checks.due("2 one below the bass", Checks.fault(x, 0, 60, 57, 52), 4);
        Checks.due("2 above the bass", Checks.fault(x, 0, 64, 60, 57), 0);
        x.plain(0);
        Checks.due("2 where the bass is", Checks.fault(x, 0, 60, 57, 53), 0);
        x = new BassRealiser();
        x.chord(3, 3, -1);
        x.figure(0, 6, 0);
        // A and D above F flat (52), which has the class of E.
        Checks.due("2 where the altered bass is", Checks.fault(x, 0, 62, 57, 52), 0);
        x = new BassRealiser();
        x.chord(2, 3, 1);
        x.figure(0, 2, 2);
        x.figure(0, 5, 0);
        // B and F flat above E sharp (53), and F flat one below it.
        Checks.due("2 one below the altered bass", Checks.fault(x, 0, 71, 59, 52), 4);
    }

    private static void rule5Apart() {
        Checks.sentence("5 voices 0 and 1, or 1 and 2 are more than 12 apart");
        Checks.due("0 and 1 12 apart", Checks.fault(Checks.plainC(), 0, 76, 64, 55), 0);
        Checks.due("0 and 1 13 apart", Checks.fault(threeFour(), 0, 77, 64, 57), 5);
        Checks.due("0 and 1 11 apart", Checks.fault(threeFour(), 0, 76, 65, 57), 0);
        Checks.due("1 and 2 12 apart", Checks.fault(Checks.plainC(), 0, 76, 67, 55), 0);
        Checks.due("1 and 2 13 apart", Checks.fault(threeFour(), 0, 69, 65, 52), 5);
        Checks.due("1 and 2 11 apart", Checks.fault(threeFour(), 0, 69, 64, 53), 0);
        BassRealiser x = new BassRealiser();
        x.chord(0, 1, 0);
        Checks.due("2 and the bass may be more apart", Checks.fault(x, 0, 76, 67, 64), 0);
    }

    private static void rule6Leading() {
        Checks.sentence("6 two of the four (the BASS, too) have the CLASS LEADING");
        BassRealiser x = new BassRealiser();
        x.chord(4, 2, 0);
        Checks.due("once", Checks.fault(x, 0, 67, 62, 59), 0);
        Checks.due("voices 0 and 1", Checks.fault(x, 0, 71, 71, 62), 6);
        Checks.due("voices 0 and 2", Checks.fault(x, 0, 71, 62, 59), 6);
        Checks.due("voices 1 and 2", Checks.fault(x, 0, 74, 71, 59), 6);
        x = new BassRealiser();
        x.chord(6, 2, 0);
        x.figure(0, 6, 0);
        // D G above B.
        Checks.due("the bass alone", Checks.fault(x, 0, 67, 62, 55), 0);
        Checks.due("the bass and voice 0", Checks.fault(x, 0, 71, 67, 62), 6);
        Checks.due("the bass and voice 1", Checks.fault(x, 0, 74, 71, 67), 6);
        Checks.due("the bass and voice 2", Checks.fault(x, 0, 67, 62, 59), 6);
    }

    private static void rule7Given() {
        Checks.sentence("7 a voice for which a PITCH is GIVEN at this CHORD has another one");
        int[] pitches = {72, 67, 64};
        for (int voice = 0; voice < 3; voice++) {
            for (int off : new int[] {-12, -1, 0, 1, 12}) {
                BassRealiser x = Checks.plainC();
                x.chord(0, 3, 0);
                x.given(0, voice, pitches[voice] + off);
                Checks.due("given " + off + " from it", Checks.fault(x, 0, 72, 67, 64), off == 0 ? 0 : 7);
                Checks.due("at the other chord", Checks.fault(x, 1, 72, 67, 64), 0);
                x.given(0, voice, -1);
                Checks.due("none is given", x.fault(0), 0);
            }
        }
        Checks.sentence("10: 0 .. 127, or none (- 1): 0 is no none");
        BassRealiser x = Checks.plainC();
        x.given(0, 2, 0);
        Checks.due("0 is given", Checks.fault(x, 0, 72, 67, 64), 7);
        Checks.due("it counts", x.count(5), 1);
        Checks.due("what it was", x.given(0, 2, 127), 0);
        Checks.due("127 is given", x.fault(0), 7);
        Checks.due("what it was", x.given(0, 2, -1), 127);
        Checks.due("none counts not", x.count(5), 0);
    }

    /** Where 72 67 64 above C come from, one voice being elsewhere before. */
    private static int faultFrom(int leap, int voice, int pitch) {
        BassRealiser x = Checks.plainC();
        x.chord(0, 3, 0);
        x.leap(leap);
        int[] p = {72, 67, 64};
        p[voice] = pitch;
        x.sing(0, p[0], p[1], p[2]);
        return Checks.fault(x, 1, 72, 67, 64);
    }

    private static void rule8Leap() {
        Checks.sentence("8 a voice moves by more than LEAP");
        int[] pitches = {72, 67, 64};
        for (int voice = 0; voice < 3; voice++) {
            int p = pitches[voice];
            for (int leap = 0; leap <= 24; leap++) {
                Checks.due("up by " + leap, faultFrom(leap, voice, p - leap), 0);
                Checks.due("up by more than " + leap, faultFrom(leap, voice, p - leap - 1), 8);
                Checks.due("down by " + leap, faultFrom(leap, voice, p + leap), 0);
                Checks.due("down by more than " + leap, faultFrom(leap, voice, p + leap + 1), 8);
            }
        }
    }

    private static void rule8NotTheBass() {
        Checks.sentence("8 a voice .., and the BASS is none");
        BassRealiser x = new BassRealiser();
        x.chord(0, 1, 0);
        x.chord(0, 4, 0);
        x.leap(0);
        x.sing(0, 72, 67, 64);
        Checks.due("only the bass leaps", Checks.fault(x, 1, 72, 67, 64), 0);
    }

    private static int parallels(int upperWas, int upper, int lowerWas, int lower) {
        int was = Math.floorMod(upperWas - lowerWas, 12);
        boolean both = upperWas != upper && lowerWas != lower;
        return both && was == Math.floorMod(upper - lower, 12) && (was == 0 || was == 7) ? 9 : 0;
    }

    private static void rule9OfTwoVoices() {
        Checks.sentence("9 PARALLELS: the upper less the lower one is, modulo 12 (also of what is below 0), 0 at both, or 7 at both");
        for (int[] now : OF_C) {
            for (int upper = 0; upper < 2; upper++) {
                for (int lower = upper + 1; lower < 3; lower++) {
                    for (int d = -24; d <= 24; d++) {
                        for (int step = -2; step <= 2; step++) {
                            parallelsFrom(now, upper, lower, d, step);
                        }
                    }
                }
            }
        }
    }

    /** The lower one comes by a step from where the upper one was by d above it; all others stay. */
    private static void parallelsFrom(int[] now, int upper, int lower, int d, int step) {
        int[] was = now.clone();
        was[lower] = now[lower] - step;
        was[upper] = was[lower] + d;
        if (Math.abs(now[upper] - was[upper]) > 24) {
            return;
        }
        BassRealiser x = Checks.plainC();
        x.chord(0, 3, 0);
        x.leap(24);
        x.sing(0, was[0], was[1], was[2]);
        String call = "voices " + upper + " and " + lower + ", by " + d + " apart, to " + now[upper] + " and " + now[lower];
        Checks.due(call, Checks.fault(x, 1, now[0], now[1], now[2]), parallels(was[upper], now[upper], was[lower], now[lower]));
    }

    private static void rule9OfAVoiceAndTheBass() {
        Checks.sentence("9 PARALLELS: two of the four, by their numbers, the BASS last");
        int[][] basses = {{0, 3, 0}, {0, 3, -1}, {1, 3, 0}, {0, 5, 0}, {1, 5, 1}, {6, 1, 0}};
        for (int[] now : OF_C) {
            for (int[] bass : basses) {
                for (int voice = 0; voice < 3; voice++) {
                    for (int was = now[voice] - 24; was <= now[voice] + 24; was++) {
                        parallelsWithBass(now, bass, voice, was);
                    }
                }
            }
        }
    }

    private static void parallelsWithBass(int[] now, int[] bass, int voice, int was) {
        BassRealiser x = new BassRealiser();
        x.chord(bass[0], bass[1], bass[2]);
        x.chord(0, 3, 0);
        x.leap(24);
        int[] before = now.clone();
        before[voice] = was;
        x.sing(0, before[0], before[1], before[2]);
        String call = "voice " + voice + " from " + was + " to " + now[voice] + ", bass from " + x.bass(0);
        Checks.due(call, Checks.fault(x, 1, now[0], now[1], now[2]), parallels(was, now[voice], x.bass(0), 48));
    }

    private static void rule10WhereItWas() {
        Checks.sentence("10 a voice that has the CLASS of a SUSPENDED TONE is not where it was");
        // F G above C, F in each of the voices.
        int[][] voicings = {{77, 72, 67}, {72, 65, 55}, {72, 67, 65}};
        for (int voice = 0; voice < 3; voice++) {
            for (int off : new int[] {-12, -2, -1, 0, 1, 2, 12}) {
                int[] now = voicings[voice];
                int[] was = now.clone();
                was[voice] += off;
                BassRealiser x = Checks.plainC();
                x.chord(0, 3, 0);
                x.figure(1, 4, 0);
                x.sing(0, was[0], was[1], was[2]);
                Checks.due("from " + off + " beside it", Checks.fault(x, 1, now[0], now[1], now[2]), off == 0 ? 0 : 10);
            }
        }
        BassRealiser x = Checks.plainC();
        x.chord(0, 3, 0);
        x.figure(1, 4, 0);
        x.sing(0, 72, 65, 67);
        Checks.due("where another voice was", Checks.fault(x, 1, 72, 67, 65), 10);
        x.sing(0, 71, 67, 65);
        Checks.due("a voice of another class may move", Checks.fault(x, 1, 72, 67, 65), 0);
    }

    private static void rule10AtChord0() {
        Checks.sentence("10 .. (at CHORD 0 always)");
        Checks.due("4 in voice 0", Checks.fault(toldOnC("4"), 0, 77, 72, 67), 10);
        Checks.due("4 in voice 1", Checks.fault(toldOnC("4"), 0, 72, 65, 55), 10);
        Checks.due("4 in voice 2", Checks.fault(toldOnC("4"), 0, 72, 67, 65), 10);
        Checks.due("9", Checks.fault(toldOnC("9"), 0, 74, 67, 64), 10);
        Checks.due("7", Checks.fault(toldOnC("7"), 0, 71, 67, 64), 0);
        Checks.due("4 with 6", Checks.fault(toldOnC("46"), 0, 72, 69, 65), 0);
        Checks.due("solve() with 4", toldOnC("4").solve(), -10);
        Checks.due("many() with 4", toldOnC("4").many(), 0);
        Checks.must(toldOnC("4").voicings(0) > 0, "voicings(0) with 4 goes by rules 1 to 7 alone");
        BassRealiser x = toldOnC("");
        x.chord(0, 3, 0);
        x.figure(1, 4, 0);
        Checks.due("at chord 1, with nothing sung before", Checks.fault(x, 1, 72, 67, 65), 0);
    }

    private static void rule10NotTheBass() {
        Checks.sentence("10 a voice .., and the BASS is none");
        BassRealiser x = new BassRealiser();
        x.chord(0, 3, 1);
        x.figure(0, 9, 2);
        // The ninth is D flat, which the bass has, C sharp.
        Checks.due("only the bass has it", Checks.fault(x, 0, 76, 67, 64), 0);
        Checks.due("a voice has it", Checks.fault(x, 0, 73, 67, 64), 10);
        x = new BassRealiser();
        x.chord(6, 2, 1);
        x.figure(0, 9, 0);
        // The ninth is C, which the bass has, B sharp: D and F are left for the voices.
        Checks.due("only the bass has C", Checks.fault(x, 0, 74, 65, 62), 0);
        Checks.due("a voice has C", Checks.fault(x, 0, 72, 65, 62), 10);
        Checks.must(x.solve() >= 0, "solve() fails where only the bass has C");
    }

    /** A voice goes to one of C E G, from a pitch that was the tone of figure f, 4 or 7, by signs. */
    private static int faultFromTone(int f, int[] now, int voice, int was) {
        int letter = LETTERS.indexOf(CLASSES.charAt(was % 12));
        BassRealiser x = new BassRealiser();
        x.chord((letter + 15 - f) % 7, 3, 0);
        x.figure(0, f, SHARPENED.charAt(was % 12) == '#' ? 1 : 3);
        x.chord(0, 3, 0);
        int[] before = now.clone();
        before[voice] = was;
        if (parallels(was, now[voice], x.bass(0), 48) != 0) {
            return Checks.NONE;
        }
        x.sing(0, before[0], before[1], before[2]);
        return Checks.fault(x, 1, now[0], now[1], now[2]);
    }

    private static void rule11Suspended() {
        Checks.sentence("11 a voice that had the CLASS of a SUSPENDED TONE of the CHORD before does not go down by 1 or 2");
        int seen = 0;
        for (int[] now : OF_C) {
            for (int voice = 0; voice < 3; voice++) {
                for (int down = -12; down <= 12; down++) {
                    int was = now[voice] + down;
                    int got = faultFromTone(4, now, voice, was);
                    boolean ownAlone = (now[(voice + 1) % 3] - was) % 12 != 0 && (now[(voice + 2) % 3] - was) % 12 != 0;
                    if (got != Checks.NONE && ownAlone) {
                        seen |= 1 << down + 12;
                        Checks.due("down by " + down + " to " + now[voice], got, down == 1 || down == 2 ? 0 : 11);
                    }
                }
            }
        }
        Checks.due("all steps were seen", seen, (1 << 25) - 1);
        Checks.sentence("11 .. also the TONE of 9");
        Checks.due("D flat down by 1", faultFromNinth(2, 73, 72), 0);
        Checks.due("D down by 2", faultFromNinth(3, 74, 72), 0);
        Checks.due("D sharp down by 3", faultFromNinth(1, 75, 72), 11);
        Checks.due("D sharp up by 1", faultFromNinth(1, 75, 76), 11);
        Checks.due("D up by 2", faultFromNinth(3, 74, 76), 11);
    }

    /** A ninth above C in voice 0, which goes to a tone of C E G. */
    private static int faultFromNinth(int sign, int was, int now) {
        BassRealiser x = Checks.plainC();
        x.figure(0, 9, sign);
        x.chord(0, 3, 0);
        x.sing(0, was, 67, 64);
        return Checks.fault(x, 1, now, 67, 64);
    }

    private static void rule11Falling() {
        Checks.sentence("11 .. one that had that of a FALLING one neither so, nor stays");
        int seen = 0;
        for (int[] now : OF_C) {
            for (int voice = 0; voice < 3; voice++) {
                for (int down = -12; down <= 12; down++) {
                    int got = faultFromTone(7, now, voice, now[voice] + down);
                    if (got != Checks.NONE) {
                        seen |= 1 << down + 12;
                        Checks.due("down by " + down + " to " + now[voice], got, down >= 0 && down <= 2 ? 0 : 11);
                    }
                }
            }
        }
        Checks.due("all steps were seen", seen, (1 << 25) - 1);
    }

    private static void rule11NotWithoutIt() {
        Checks.sentence("11 a voice that had ..: one that had not goes where it likes, and the BASS is no voice");
        BassRealiser x = toldOnC("4");
        x.chord(0, 3, 0);
        x.sing(0, 72, 67, 60);
        Checks.due("nobody had F", Checks.fault(x, 1, 72, 67, 64), 0);
        x.sing(0, 71, 66, 65);
        Checks.due("F goes down, others up", Checks.fault(x, 1, 72, 67, 64), 0);
        x = new BassRealiser();
        x.chord(0, 3, 1);
        x.figure(0, 9, 2);
        x.chord(1, 3, 0);
        x.sing(0, 69, 65, 57);
        Checks.due("the bass had it, and goes up", Checks.fault(x, 1, 69, 65, 57), 0);
    }

    /** One voicing that breaks several rules, mended rule by rule. */
    private static void rulesInTheirOrder() {
        Checks.sentence("RULES, the first that is broken");
        BassRealiser x = new BassRealiser();
        x.chord(4, 2, 0);
        x.chord(4, 2, 0);
        x.given(1, 0, 67);
        x.sing(0, 0, 0, 0);
        Checks.due("1 of 1, 2, ..", Checks.fault(x, 1, 59, 73, 59), 1);
        Checks.due("2 of 2, 3, ..", Checks.fault(x, 1, 60, 71, 48), 2);
        Checks.due("3 of 3, 4, ..", Checks.fault(x, 1, 67, 71, 55), 3);
        Checks.due("4 of 4, 5, ..", Checks.fault(x, 1, 71, 74, 59), 4);
        Checks.due("5 of 5, 6, ..", Checks.fault(x, 1, 74, 59, 59), 5);
        Checks.due("6 of 6, 7, 8", Checks.fault(x, 1, 71, 71, 62), 6);
        Checks.due("7 of 7 and 8", Checks.fault(x, 1, 74, 67, 59), 7);
        Checks.due("8", Checks.fault(x, 1, 67, 62, 59), 8);
        Checks.sentence("RULES, the first that is broken: 8 to 11");
        x = new BassRealiser();
        x.chord(3, 3, 0);
        x.figure(0, 9, 0);
        x.chord(0, 3, 0);
        x.figure(1, 4, 0);
        // G was the ninth above F, and goes up to C; F is not where it was.
        x.sing(0, 67, 79, 64);
        x.leap(4);
        Checks.due("8 of 8, 10, 11", Checks.fault(x, 1, 72, 67, 65), 8);
        x.leap(12);
        Checks.due("10 of 10, 11", x.fault(1), 10);
        x.sing(0, 67, 79, 65);
        Checks.due("11", x.fault(1), 11);
        // Octaves with the bass, which goes from 53 to 48.
        x.sing(0, 65, 79, 64);
        Checks.due("9 of 9, 10, 11", x.fault(1), 9);
    }

    private static void costFromHome() {
        Checks.sentence("COST of a row: at CHORD 0 how far each is from its HOME");
        BassRealiser x = Checks.plainC();
        int[] pitches = {72, 67, 64};
        for (int voice = 0; voice < 3; voice++) {
            x.given(0, voice, pitches[voice]);
            x.home(voice, pitches[voice]);
        }
        x.sing(0, 72, 67, 64);
        Checks.due("all at home", x.solve(), 0);
        Checks.due("all at home, sung", x.sung(), 0);
        for (int voice = 0; voice < 3; voice++) {
            for (int home : new int[] {0, pitches[voice] - 1, pitches[voice] + 1, 127}) {
                x.home(voice, home);
                Checks.due("home at " + home, x.solve(), Math.abs(pitches[voice] - home));
                Checks.due("home at " + home + ", sung", x.sung(), Math.abs(pitches[voice] - home));
            }
            x.home(voice, pitches[voice]);
        }
    }

    private static void costOfMoves() {
        Checks.sentence("COST of a row: how far voices move from CHORD to CHORD, together");
        BassRealiser x = new BassRealiser();
        x.chord(0, 1, 0);
        x.chord(0, 3, 0);
        x.sing(0, 72, 67, 64);
        x.sing(1, 72, 67, 64);
        Checks.due("the bass counts not", x.sung(), 4);
        x.sing(1, 76, 72, 67);
        Checks.due("up by 4, 5, 3", x.sung(), 16);
        x.sing(1, 67, 64, 60);
        Checks.due("down by 5, 3, 4", x.sung(), 16);
        x.sing(1, 76, 64, 55);
        Checks.due("up by 4, down by 3 and 9", x.sung(), 20);
        x.chord(0, 3, 0);
        x.sing(2, 72, 67, 64);
        Checks.due("and back", x.sung(), 36);
    }

    private static void orderOfVoicings() {
        Checks.sentence("ORDER of VOICINGS: by the PITCH of voice 0, then 1, then 2, lesser ones first");
        BassRealiser x = Checks.plainC();
        x.range(0, 67, 72);
        x.range(1, 64, 64);
        x.range(2, 55, 64);
        x.home(0, 72);
        x.home(1, 64);
        x.home(2, 60);
        // 67 64 60 and 72 64 55 both cost 5.
        Checks.due("like ones", x.solve(), 5);
        Checks.due("voice 0 of the first", x.note(0, 0), 67);
        Checks.due("voice 2 of the first", x.note(0, 2), 60);
        x = Checks.plainC();
        x.range(0, 79, 79);
        x.range(1, 67, 76);
        x.range(2, 64, 64);
        x.home(1, 74);
        // Voice 1 at 72 or 76.
        x.solve();
        Checks.due("voice 1 of the first", x.note(0, 1), 72);
        x = Checks.plainC();
        x.range(0, 79, 79);
        x.range(1, 76, 76);
        x.range(2, 64, 76);
        x.home(2, 74);
        // Voice 2 at 72 or 76.
        x.solve();
        Checks.due("voice 2 of the first", x.note(0, 2), 72);
        Checks.sentence("ORDER of VOICINGS: each before the next");
        x = Checks.plainC();
        int before = -1;
        for (int k = 0; k < x.voicings(0); k++) {
            int read = (x.voicing(0, k, 0) * 128 + x.voicing(0, k, 1)) * 128 + x.voicing(0, k, 2);
            Checks.must(read > before, "voicing " + k + " stands behind " + (k - 1));
            before = read;
        }
    }

    private static void orderOfRows() {
        Checks.sentence("ORDER of rows of them: at the first CHORD at which they differ");
        BassRealiser x = Checks.plainC();
        x.range(1, 67, 67);
        x.range(2, 64, 64);
        x.chord(0, 3, 0);
        x.chord(0, 3, 0);
        x.given(0, 0, 79);
        x.given(2, 0, 67);
        // Down from 79 to 67 by way of 67, 72, 76 or 79.
        Checks.due("by the way", x.solve(), 7 + 0 + 4 + 12);
        Checks.due("the least at chord 1", x.note(1, 0), 67);
        x.given(0, 0, -1);
        x.home(0, 74);
        x.given(1, 0, 74 + 2);
        x.given(2, 0, 72);
        // 72 76 72 costs 2 + 4 + 4, 76 76 72 costs 2 + 0 + 4.
        Checks.due("the least cost before the ORDER", x.solve(), 4 + 6);
        Checks.due("at chord 0", x.note(0, 0), 76);
        x.given(1, 0, -1);
        // Now 72 72 72 costs 2, before 76 72 72 with 6.
        Checks.due("free at chord 1", x.solve(), 4 + 2);
        Checks.due("at chord 0", x.note(0, 0), 72);
        Checks.due("at chord 1", x.note(1, 0), 72);
    }
}
