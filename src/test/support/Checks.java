import java.util.ArrayList;
import java.util.List;

/** What the tests of boundaries share: a piece of every kind, its answers, and refused calls on it. */
final class Checks {
    static final int BAD = BassRealiser.BAD, NONE = BassRealiser.NONE, FULL = BassRealiser.FULL;
    static final int LEAST = Integer.MIN_VALUE, MOST = Integer.MAX_VALUE;

    /** A call with its arguments. */
    interface Call {
        int on(BassRealiser x, int[] with);
    }

    /** What has been called before. */
    interface Making {
        BassRealiser make();
    }

    private static String sentence = "";
    private static int wrong = 0;

    private Checks() {
    }

    /** The sentence of the document that the checks after this one hold to. */
    static void sentence(String words) {
        sentence = words;
    }

    static void due(String call, int got, int want) {
        must(got == want, call + " answered " + got + ", due is " + want);
    }

    static void must(boolean holds, String what) {
        if (!holds) {
            wrong++;
            System.out.println("[" + sentence + "] " + what);
        }
    }

    static void end(String test) {
        System.out.println(test + (wrong == 0 ? ": all answers are as due" : ": " + wrong + " answers are not as due"));
        if (wrong != 0) {
            System.exit(1);
        }
    }

    static int[] with(int... arguments) {
        return arguments;
    }

    static int fault(BassRealiser x, int i, int a, int b, int c) {
        x.sing(i, a, b, c);
        return x.fault(i);
    }

    /** One plain chord: bass C3 (48), in C. */
    static BassRealiser plainC() {
        BassRealiser x = new BassRealiser();
        x.chord(0, 3, 0);
        return x;
    }

    /** Something of every kind is told; what is sung is a realising, though not THE BEST. */
    static BassRealiser piece() {
        BassRealiser x = new BassRealiser();
        x.key(1);
        x.range(0, 62, 83);
        x.range(1, 56, 75);
        x.range(2, 49, 68);
        x.home(0, 73);
        x.home(1, 68);
        x.home(2, 61);
        x.leap(9);
        x.chord(4, 2, 0);
        x.chord(0, 3, 0);
        x.chord(1, 3, 0);
        x.figure(2, 7, 3);
        x.figure(2, 3, 1);
        x.chord(4, 2, 0);
        x.figure(3, 8, 0);
        x.given(0, 1, 67);
        x.given(3, 0, 71);
        x.sing(0, 74, 67, 59);
        x.sing(1, 72, 67, 64);
        x.sing(2, 69, 66, 60);
        x.sing(3, 71, 62, 59);
        x.solve();
        return x;
    }

    /** All that an object of at most 12 chords tells, in at most 400 calls; nothing is told to it later. */
    static List<Integer> answers(BassRealiser x) {
        List<Integer> all = new ArrayList<>();
        for (int what = 0; what <= 14; what++) {
            all.add(x.count(what));
        }
        addRealising(x, all);
        int chords = x.count(0);
        for (int i = 0; i < chords; i++) {
            addChord(x, i, all);
        }
        // What was found before is found anew, from what is told.
        int fifths = x.key(0) - 7;
        x.key(fifths);
        addRealising(x, all);
        for (int i = 0; i < chords; i++) {
            for (int voice = 0; voice < 3; voice++) {
                all.add(x.given(i, voice, -1));
            }
        }
        return all;
    }

    private static void addRealising(BassRealiser x, List<Integer> all) {
        all.add(x.solve());
        all.add(x.many());
        all.add(x.sung());
    }

    private static void addChord(BassRealiser x, int i, List<Integer> all) {
        all.add(x.bass(i));
        all.add(x.fault(i));
        int worked = x.worked(i, 0, 7);
        for (int k = 0; k < worked; k++) {
            all.add(x.worked(i, k, 0));
            all.add(x.worked(i, k, 1));
            all.add(x.worked(i, k, 3));
        }
        int last = x.voicings(i) - 1;
        all.add(last);
        for (int voice = 0; voice < 3; voice++) {
            all.add(x.voicing(i, last, voice));
            all.add(x.note(i, voice));
        }
    }

    /** The call is refused, and leaves what it finds as it would be without the call. */
    static void refused(String name, int want, Making making, Call call, int... arguments) {
        BassRealiser x = making.make();
        String told = name + java.util.Arrays.toString(arguments);
        due(told, call.on(x, arguments), want);
        must(answers(x).equals(answers(making.make())), told + " was refused, but has changed something");
    }

    /** One argument of a call on the piece, on either side of both its bounds; the others stand. */
    static void bounds(String name, Call call, int[] arguments, int at, int least, int most) {
        int[] with = arguments.clone();
        for (int outside : new int[] {least - 1, most + 1, LEAST, MOST, LEAST + 1, MOST - 1}) {
            with[at] = outside;
            refused(name, BAD, Checks::piece, call, with);
        }
        for (int inside : new int[] {least, most}) {
            with[at] = inside;
            must(call.on(piece(), with) != BAD, name + java.util.Arrays.toString(with) + " answered BAD");
        }
    }
}
