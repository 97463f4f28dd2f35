import java.math.BigInteger;
import java.util.ArrayList;
import java.util.List;
import java.util.Random;
import java.util.TreeMap;
import java.util.TreeSet;

/**
 * Runs of calls chosen by fixed seeds, each answer compared with that of a second model, which is
 * written from the document alone: by sets and whole rows, without any thought of speed.
 */
public final class OracleTest {
    private static final int BAD = -1, NONE = -2, FULL = -3;
    private static final int RUNS = 1500;
    private static final int CALLS = 90;
    private static int wrong = 0;

    public static void main(String[] args) {
        for (int seed = 0; seed < RUNS && wrong < 20; seed++) {
            runOnce(seed);
        }
        System.out.println(wrong == 0 ? "oracle: all answers agree" : "oracle: " + wrong + " answers differ");
        if (wrong != 0) {
            System.exit(1);
        }
    }

    private static void runOnce(int seed) {
        Random random = new Random(seed);
        BassRealiser x = new BassRealiser();
        Model model = new Model();
        Caller caller = new Caller(random, model, seed % 2 == 0 ? Caller.ROUGH : Caller.GENTLE);
        StringBuilder story = new StringBuilder();
        for (int n = 0; n < CALLS; n++) {
            caller.choose();
            int got = caller.call(x);
            int want = caller.due();
            story.append(caller.text()).append(" = ").append(got).append('\n');
            if (got != want) {
                wrong++;
                System.out.println("seed " + seed + ", due is " + want + " at the end of\n" + story);
                return;
            }
        }
    }

    /** Chooses a call, mostly a sensible one, and makes it on either side. */
    private static final class Caller {
        private static final String[] NAMES = {
            "key", "chord", "less", "figure", "plain", "range", "home", "leap", "given", "bass", "worked",
            "voicings", "voicing", "solve", "note", "many", "sing", "fault", "sung", "count"};
        /** How often each name is chosen; gentle runs have more pieces that can be realised and sung. */
        static final int[] ROUGH = {2, 10, 2, 12, 3, 3, 3, 3, 3, 2, 8, 4, 8, 8, 10, 6, 12, 12, 4, 3};
        static final int[] GENTLE = {1, 8, 1, 5, 4, 0, 1, 1, 1, 1, 1, 1, 1, 8, 8, 6, 30, 20, 12, 1};
        private final int[] weights;
        private final Random random;
        private final Model model;
        private int which;
        private int p, q, r, s;

        Caller(Random random, Model model, int[] weights) {
            this.random = random;
            this.model = model;
            this.weights = weights;
        }

        private int from(int least, int most) {
            if (random.nextInt(60) == 0) {
                int[] odd = {least - 1, most + 1, Integer.MIN_VALUE, Integer.MAX_VALUE};
                return odd[random.nextInt(odd.length)];
            }
            return least + random.nextInt(Math.max(1, most - least + 1));
        }

        private int chordNumber() {
            return from(0, model.size() - 1);
        }

        void choose() {
            int total = 0;
            for (int weight : weights) {
                total += weight;
            }
            int at = random.nextInt(total);
            which = 0;
            while (at >= weights[which]) {
                at -= weights[which++];
            }
            p = q = r = s = 0;
            switch (NAMES[which]) {
                case "key": p = from(-7, 7); break;
                case "chord": p = from(0, 6); q = from(1, random.nextInt(4) == 0 && weights == ROUGH ? 5 : 3);
                    r = random.nextInt(3) == 0 && weights == ROUGH ? from(-1, 1) : 0; break;
                case "figure": p = chordNumber(); q = from(2, 9); r = random.nextBoolean() ? 0 : from(0, 3); break;
                case "range": p = from(0, 2); q = from(40, 72); r = q + from(-1, 25);
                    if (random.nextInt(12) == 0) { q = from(0, 127); r = from(0, 127); } break;
                case "home": p = from(0, 2); q = from(0, 127); break;
                case "leap": p = random.nextInt(3) == 0 ? from(0, 24) : from(5, 24); break;
                case "given": p = chordNumber(); q = from(0, 2); r = random.nextBoolean() ? -1 : pitchNear(p, q); break;
                case "worked": p = chordNumber(); q = from(0, 2); r = from(0, 7); break;
                case "voicing": p = chordNumber(); q = random.nextInt(4) == 0 ? -1 : pick(model.voicings(p)); r = from(0, 2); break;
                case "note": p = chordNumber(); q = from(0, 2); break;
                case "sing": chooseSung(); break;
                case "count": p = from(0, 14); break;
                default: p = chordNumber();
            }
        }

        private int pick(int many) {
            return many <= 0 ? 0 : random.nextInt(many + 1);
        }

        private int pitchNear(int i, int voice) {
            int many = model.voicings(i);
            if (many <= 0 || voice < 0 || voice > 2) {
                return from(0, 127);
            }
            return model.voicing(i, random.nextInt(many), voice);
        }

        /** Mostly a voicing that the rules allow, or THE BEST one's, sometimes with one voice off. */
        private void chooseSung() {
            p = chordNumber();
            int many = model.voicings(p);
            if (many <= 0) {
                q = from(0, 127); r = from(0, 127); s = from(0, 127);
                return;
            }
            int k = random.nextInt(many);
            boolean best = random.nextBoolean() && model.note(p, 0) >= 0;
            q = best ? model.note(p, 0) : model.voicing(p, k, 0);
            r = best ? model.note(p, 1) : model.voicing(p, k, 1);
            s = best ? model.note(p, 2) : model.voicing(p, k, 2);
            if (random.nextInt(4) == 0) {
                q = model.fitting(p, 0, random);
                r = model.fitting(p, 1, random);
                s = model.fitting(p, 2, random);
            }
            int off = random.nextInt(24);
            int by = random.nextBoolean() ? 12 - 24 * random.nextInt(2) : random.nextInt(9) - 4;
            if (off == 0) { q += by; }
            if (off == 1) { r += by; }
            if (off == 2) { s += by; }
            if (off == 3) { int t = q; q = r; r = t; }
            if (off == 4) { int t = r; r = s; s = t; }
            if (off == 5) { q = from(0, 127); }
        }

        int call(BassRealiser x) {
            switch (NAMES[which]) {
                case "key": return x.key(p);
                case "chord": return x.chord(p, q, r);
                case "less": return x.less();
                case "figure": return x.figure(p, q, r);
                case "plain": return x.plain(p);
                case "range": return x.range(p, q, r);
                case "home": return x.home(p, q);
                case "leap": return x.leap(p);
                case "given": return x.given(p, q, r);
                case "bass": return x.bass(p);
                case "worked": return x.worked(p, q, r);
                case "voicings": return x.voicings(p);
                case "voicing": return x.voicing(p, q, r);
                case "solve": return x.solve();
                case "note": return x.note(p, q);
                case "many": return x.many();
                case "sing": return x.sing(p, q, r, s);
                case "fault": return x.fault(p);
                case "sung": return x.sung();
                default: return x.count(p);
            }
        }

        int due() {
            switch (NAMES[which]) {
                case "key": return model.key(p);
                case "chord": return model.chord(p, q, r);
                case "less": return model.less();
                case "figure": return model.figure(p, q, r);
                case "plain": return model.plain(p);
                case "range": return model.range(p, q, r);
                case "home": return model.home(p, q);
                case "leap": return model.leap(p);
                case "given": return model.given(p, q, r);
                case "bass": return model.bass(p);
                case "worked": return model.worked(p, q, r);
                case "voicings": return model.voicings(p);
                case "voicing": return model.voicing(p, q, r);
                case "solve": return model.solve();
                case "note": return model.note(p, q);
                case "many": return model.many();
                case "sing": return model.sing(p, q, r, s);
                case "fault": return model.fault(p);
                case "sung": return model.sung();
                default: return model.count(p);
            }
        }

        String text() {
            return NAMES[which] + "(" + p + ", " + q + ", " + r + ", " + s + ")";
        }
    }

    private static final class Bar {
        int letter, octave, alter;
        final TreeMap<Integer, Integer> told = new TreeMap<>();
        final int[] given = {-1, -1, -1};
        int[] sung = null;
    }

    /** A row of voicings with its cost. */
    private static final class Row {
        final List<int[]> voicings = new ArrayList<>();
        int cost = 0;

        boolean before(Row other) {
            if (cost != other.cost) {
                return cost < other.cost;
            }
            for (int i = 0; i < voicings.size(); i++) {
                for (int v = 0; v < 3; v++) {
                    int mine = voicings.get(i)[v], its = other.voicings.get(i)[v];
                    if (mine != its) {
                        return mine < its;
                    }
                }
            }
            return false;
        }

        Row with(int[] voicing, int more) {
            Row longer = new Row();
            longer.voicings.addAll(voicings);
            longer.voicings.add(voicing);
            longer.cost = cost + more;
            return longer;
        }
    }

    private static final class Model {
        private static final String LETTERS = "C.D.EF.G.A.B";
        private final List<Bar> bars = new ArrayList<>();
        private int fifths = 0, leap = 12;
        private final int[] low = {60, 55, 48}, high = {81, 74, 69}, home = {72, 67, 60};
        private Row best;
        private int failed;
        private BigInteger all;
        private boolean known = false;

        int size() {
            return bars.size();
        }

        private boolean no(int i) {
            return i < 0 || i >= bars.size();
        }

        private static boolean notIn(int n, int least, int most) {
            return n < least || n > most;
        }

        private static int step(int letter) {
            return LETTERS.indexOf("CDEFGAB".charAt(letter));
        }

        private static int mod12(int n) {
            return ((n % 12) + 12) % 12;
        }

        int key(int n) {
            if (notIn(n, -7, 7)) return BAD;
            int was = fifths + 7;
            fifths = n;
            known = false;
            return was;
        }

        int chord(int letter, int octave, int alter) {
            if (notIn(letter, 0, 6) || notIn(octave, 1, 5) || notIn(alter, -1, 1)) return BAD;
            if (bars.size() == 12) return FULL;
            Bar bar = new Bar();
            bar.letter = letter;
            bar.octave = octave;
            bar.alter = alter;
            bars.add(bar);
            known = false;
            return bars.size() - 1;
        }

        int less() {
            if (bars.isEmpty()) return NONE;
            bars.remove(bars.size() - 1);
            known = false;
            return bars.size();
        }

        private static TreeSet<Integer> complete(TreeSet<Integer> t) {
            TreeSet<Integer> w = new TreeSet<>(t);
            if (!(t.contains(2) || t.contains(4))) w.add(3);
            if (t.contains(2) && !t.contains(5)) w.add(4);
            if (!(t.contains(2) || t.contains(6) || t.containsAll(List.of(3, 4)) || t.containsAll(List.of(7, 9)))) w.add(5);
            if (t.contains(2) && !t.contains(5) || t.containsAll(List.of(3, 4))) w.add(6);
            return w;
        }

        private static TreeSet<Integer> figures(Bar bar) {
            return complete(new TreeSet<>(bar.told.keySet()));
        }

        int figure(int i, int f, int sign) {
            if (no(i) || notIn(f, 2, 9) || notIn(sign, 0, 3)) return BAD;
            TreeSet<Integer> more = new TreeSet<>(bars.get(i).told.keySet());
            more.add(f);
            int many = complete(more).size();
            if (many > 3) return FULL;
            bars.get(i).told.put(f, sign);
            known = false;
            return many;
        }

        int plain(int i) {
            if (no(i)) return BAD;
            int many = bars.get(i).told.size();
            bars.get(i).told.clear();
            known = false;
            return many;
        }

        int range(int v, int lowest, int highest) {
            if (notIn(v, 0, 2) || notIn(lowest, 0, 127) || notIn(highest, lowest, Math.min(127, lowest + 24))) return BAD;
            low[v] = lowest;
            high[v] = highest;
            known = false;
            return 1;
        }

        int home(int v, int pitch) {
            if (notIn(v, 0, 2) || notIn(pitch, 0, 127)) return BAD;
            int was = home[v];
            home[v] = pitch;
            known = false;
            return was;
        }

        int leap(int n) {
            if (notIn(n, 0, 24)) return BAD;
            int was = leap;
            leap = n;
            known = false;
            return was;
        }

        int given(int i, int v, int pitch) {
            if (no(i) || notIn(v, 0, 2) || notIn(pitch, -1, 127)) return BAD;
            int was = bars.get(i).given[v];
            bars.get(i).given[v] = pitch;
            known = false;
            return was < 0 ? NONE : was;
        }

        private static int bassOf(Bar bar) {
            return 12 * (bar.octave + 1) + step(bar.letter) + bar.alter;
        }

        int bass(int i) {
            return no(i) ? BAD : bassOf(bars.get(i));
        }

        private int toneLetter(Bar bar, int f) {
            return (bar.letter + f - 1) % 7;
        }

        private int toneAlter(Bar bar, int f) {
            int sign = bar.told.getOrDefault(f, 0);
            if (sign != 0) return sign == 1 ? 1 : sign == 2 ? -1 : 0;
            int letter = toneLetter(bar, f);
            if (fifths > 0) return "FCGDAEB".substring(0, fifths).indexOf("CDEFGAB".charAt(letter)) >= 0 ? 1 : 0;
            return "BEADGCF".substring(0, -fifths).indexOf("CDEFGAB".charAt(letter)) >= 0 ? -1 : 0;
        }

        private int toneClass(Bar bar, int f) {
            return mod12(step(toneLetter(bar, f)) + toneAlter(bar, f));
        }

        private int kind(Bar bar, int f) {
            TreeSet<Integer> w = figures(bar);
            if (f == 9) return 1;
            if (f == 4 && !w.contains(2) && !w.contains(3) && !w.contains(6)) return 1;
            return f == 7 ? 2 : 0;
        }

        private TreeSet<Integer> classes(Bar bar, int kind) {
            TreeSet<Integer> set = new TreeSet<>();
            for (int f : figures(bar)) {
                if (kind < 0 || kind(bar, f) == kind) set.add(toneClass(bar, f));
            }
            return set;
        }

        int worked(int i, int k, int what) {
            if (no(i) || notIn(what, 0, 7)) return BAD;
            Bar bar = bars.get(i);
            List<Integer> w = new ArrayList<>(figures(bar));
            if (what == 7) return w.size();
            if (notIn(k, 0, w.size() - 1)) return BAD;
            int f = w.get(k);
            int[] all = {f, bar.told.getOrDefault(f, 0), toneLetter(bar, f), toneAlter(bar, f), toneClass(bar, f),
                bar.told.containsKey(f) ? 1 : 0, kind(bar, f)};
            return all[what];
        }

        private int ownRule(Bar bar, int[] p) {
            int bass = bassOf(bar);
            TreeSet<Integer> tones = classes(bar, -1);
            TreeSet<Integer> there = new TreeSet<>(List.of(mod12(bass)));
            int leading = mod12(7 * fifths + 11), ones = mod12(bass) == leading ? 1 : 0;
            for (int v = 0; v < 3; v++) if (p[v] < low[v] || p[v] > high[v]) return 1;
            for (int v = 0; v < 3; v++) if (mod12(p[v]) != mod12(bass) && !tones.contains(mod12(p[v]))) return 2;
            for (int v = 0; v < 3; v++) there.add(mod12(p[v]));
            if (!there.containsAll(tones)) return 3;
            if (p[0] < p[1] || p[1] < p[2] || p[2] < bass) return 4;
            if (p[0] - p[1] > 12 || p[1] - p[2] > 12) return 5;
            for (int v = 0; v < 3; v++) if (mod12(p[v]) == leading) ones++;
            if (ones >= 2) return 6;
            for (int v = 0; v < 3; v++) if (bar.given[v] >= 0 && bar.given[v] != p[v]) return 7;
            return 0;
        }

        private int startRule(Bar bar, int[] p) {
            for (int v = 0; v < 3; v++) if (classes(bar, 1).contains(mod12(p[v]))) return 10;
            return 0;
        }

        private int moveRule(Bar old, int[] o, Bar bar, int[] p) {
            for (int v = 0; v < 3; v++) if (Math.abs(p[v] - o[v]) > leap) return 8;
            int[] four = {p[0], p[1], p[2], bassOf(bar)}, were = {o[0], o[1], o[2], bassOf(old)};
            for (int u = 0; u < 4; u++) {
                for (int l = u + 1; l < 4; l++) {
                    int now = mod12(four[u] - four[l]), then = mod12(were[u] - were[l]);
                    boolean both = four[u] != were[u] && four[l] != were[l];
                    if (both && now == then && (now == 0 || now == 7)) return 9;
                }
            }
            TreeSet<Integer> suspended = classes(bar, 1), oldSuspended = classes(old, 1), oldFalling = classes(old, 2);
            for (int v = 0; v < 3; v++) if (suspended.contains(mod12(p[v])) && p[v] != o[v]) return 10;
            for (int v = 0; v < 3; v++) {
                boolean down = p[v] == o[v] - 1 || p[v] == o[v] - 2;
                if (oldSuspended.contains(mod12(o[v])) && !down) return 11;
                if (oldFalling.contains(mod12(o[v])) && !down && p[v] != o[v]) return 11;
            }
            return 0;
        }

        private List<int[]> list(Bar bar) {
            List<int[]> found = new ArrayList<>();
            TreeSet<Integer> fit = classes(bar, -1);
            fit.add(mod12(bassOf(bar)));
            for (int a = low[0]; a <= high[0]; a++) {
                if (!fit.contains(mod12(a))) continue;
                for (int b = low[1]; b <= high[1]; b++) {
                    if (!fit.contains(mod12(b))) continue;
                    for (int c = low[2]; c <= high[2]; c++) {
                        int[] p = {a, b, c};
                        if (fit.contains(mod12(c)) && ownRule(bar, p) == 0) found.add(p);
                    }
                }
            }
            return found;
        }

        /** Some pitch that keeps rules 1 and 2; there must be one. */
        int fitting(int i, int v, Random random) {
            TreeSet<Integer> fit = classes(bars.get(i), -1);
            fit.add(mod12(bassOf(bars.get(i))));
            int pitch = low[v] + random.nextInt(high[v] - low[v] + 1);
            while (!fit.contains(mod12(pitch))) {
                pitch = pitch == high[v] ? low[v] : pitch + 1;
            }
            return pitch;
        }

        int voicings(int i) {
            return no(i) ? BAD : list(bars.get(i)).size();
        }

        int voicing(int i, int k, int v) {
            if (no(i) || notIn(v, 0, 2)) return BAD;
            List<int[]> found = list(bars.get(i));
            return notIn(k, 0, found.size() - 1) ? BAD : found.get(k)[v];
        }

        private static int apart(int[] a, int[] b) {
            return Math.abs(a[0] - b[0]) + Math.abs(a[1] - b[1]) + Math.abs(a[2] - b[2]);
        }

        /** Forward, with a whole row kept for each last voicing: unlike the program. */
        private void know() {
            if (known) return;
            known = true;
            best = null;
            failed = -1;
            all = BigInteger.ZERO;
            List<Row> rows = new ArrayList<>();
            List<BigInteger> ways = new ArrayList<>();
            for (int i = 0; i < bars.size(); i++) {
                List<Row> longer = new ArrayList<>();
                List<BigInteger> more = new ArrayList<>();
                for (int[] p : list(bars.get(i))) {
                    extend(i, p, rows, ways, longer, more);
                }
                rows = longer;
                ways = more;
                if (rows.isEmpty()) {
                    failed = i;
                    return;
                }
            }
            for (int k = 0; k < rows.size(); k++) {
                all = all.add(ways.get(k));
                if (best == null || rows.get(k).before(best)) best = rows.get(k);
            }
        }

        private void extend(int i, int[] p, List<Row> rows, List<BigInteger> ways, List<Row> longer, List<BigInteger> more) {
            Row mine = null;
            BigInteger many = BigInteger.ZERO;
            if (i == 0 && startRule(bars.get(0), p) == 0) {
                mine = new Row().with(p, apart(p, home));
                many = BigInteger.ONE;
            }
            for (int k = 0; k < rows.size(); k++) {
                int[] o = rows.get(k).voicings.get(i - 1);
                if (moveRule(bars.get(i - 1), o, bars.get(i), p) != 0) continue;
                Row row = rows.get(k).with(p, apart(o, p));
                if (mine == null || row.before(mine)) mine = row;
                many = many.add(ways.get(k));
            }
            if (mine != null) {
                longer.add(mine);
                more.add(many);
            }
        }

        int solve() {
            if (bars.isEmpty()) return NONE;
            know();
            return failed >= 0 ? -10 - failed : best.cost;
        }

        int note(int i, int v) {
            if (no(i) || notIn(v, 0, 2)) return BAD;
            know();
            return failed >= 0 ? NONE : best.voicings.get(i)[v];
        }

        int many() {
            if (bars.isEmpty()) return NONE;
            know();
            return failed >= 0 ? 0 : all.min(BigInteger.valueOf(1_000_000_000)).intValueExact();
        }

        int sing(int i, int a, int b, int c) {
            if (no(i) || notIn(a, 0, 127) || notIn(b, 0, 127) || notIn(c, 0, 127)) return BAD;
            bars.get(i).sung = new int[] {a, b, c};
            return 1;
        }

        int fault(int i) {
            if (no(i)) return BAD;
            Bar bar = bars.get(i);
            if (bar.sung == null) return NONE;
            int own = ownRule(bar, bar.sung);
            if (own != 0) return own;
            if (i == 0) return startRule(bar, bar.sung);
            Bar old = bars.get(i - 1);
            return old.sung == null ? 0 : moveRule(old, old.sung, bar, bar.sung);
        }

        int sung() {
            if (bars.isEmpty()) return NONE;
            int cost = 0;
            for (int i = 0; i < bars.size(); i++) {
                if (fault(i) != 0) return NONE;
                cost += apart(bars.get(i).sung, i == 0 ? home : bars.get(i - 1).sung);
            }
            return cost;
        }

        int count(int what) {
            if (notIn(what, 0, 14)) return BAD;
            int told = 0, sung = 0, given = 0;
            for (Bar bar : bars) {
                told += bar.told.size();
                sung += bar.sung == null ? 0 : 1;
                for (int pitch : bar.given) given += pitch < 0 ? 0 : 1;
            }
            int[] all = {bars.size(), told, fifths + 7, leap, sung, given, low[0], low[1], low[2],
                high[0], high[1], high[2], home[0], home[1], home[2]};
            return all[what];
        }
    }
}
