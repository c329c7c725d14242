import java.util.ArrayList;
import java.util.List;

/** The sentences of promises 32 to 39: which frame it was, laws of tidying. */
final class GuessEdges {
    private static final int[] NUMBERS = {24, 8, 10, 6};

    private GuessEdges() {
    }

    static void all() {
        heard();
        heardRefused();
        fits();
        asks();
        saw();
        laws();
        looks();
    }

    private static void says(int promise, String words) {
        Sentence.says(promise, words);
    }

    private static void due(String what, long got, long due) {
        Sentence.due(what, got, due);
    }

    /** OBJECT 0 of SPACE 0 HOLDS 10, 29, 30 and 5; OBJECT 1 of SPACE 2 HOLDS 99; OBJECT 2, ahead of it, is SPACE 1's. */
    private static ShadowSpaces some() {
        ShadowSpaces x = Build.calm("0010293005", "0099");
        x.forks(1);
        x.writes(1, 0, 9);
        return x;
    }

    private static long fitting(int... pairs) {
        ShadowSpaces x = some();
        for (int i = 0; i + 1 < pairs.length; i += 2) {
            x.heard(pairs[i], pairs[i + 1]);
        }
        return x.fits();
    }

    // ---- which frame it was

    private static void heard() {
        says(32, "It was heard of a FRAME that, what 0: its OBJECT is v (0 .. 23);");
        due("four", fitting(0, 0), 4);
        due("one", fitting(0, 1), 1);
        due("the last that can be", fitting(0, 23), 0);
        ShadowSpaces deep = Build.deepen(Build.calm("00"), 0, 23);
        deep.heard(0, 23);
        Sentence.told("OBJECT 23", deep, x -> x.fits(), 1, 23, 0);
        says(32, "1: its PAGE is v (0 .. 7);");
        due("three", fitting(1, 0), 3);
        due("one", fitting(1, 3), 1);
        due("none", fitting(1, 7), 0);
        ShadowSpaces last = Check.with("00..............42");
        last.heard(1, 7);
        Sentence.told("PAGE 7", last, x -> x.fits(), 1, 0, 7);
        says(32, "2: its value is v (0 .. 9) tens or more;");
        due("all", fitting(2, 0), 6);
        due("10 is", fitting(2, 1), 4);
        due("29 is not three tens", fitting(2, 3), 2);
        due("30 is not four", fitting(2, 4), 1);
        due("99", fitting(2, 9), 1);
        due("of both the more", fitting(2, 1, 2, 3), 2);
        says(32, "3: SPACE v (0 .. 5) has it (as hidden()): how many such.");
        due("its own", fitting(3, 0), 4);
        due("an OBJECT ahead HOLDS the PAGE", fitting(3, 1, 0, 1), 0);
        due("the other one has it", fitting(3, 2, 0, 1), 1);
        due("a SPACE that is not there", fitting(3, 5), 0);
        ShadowSpaces x = some();
        for (int i = 1; i <= 12; i++) {
            due("how many", x.heard(i % 4, 0), i);
            due("count", x.count(6), i);
        }
    }

    private static ShadowSpaces heardOf(int n) {
        ShadowSpaces x = some();
        for (int i = 0; i < n; i++) {
            x.heard(2, 0);
        }
        return x;
    }

    private static void heardRefused() {
        says(32, "Refused: others, 12.");
        for (int what = 0; what < 4; what++) {
            int w = what;
            due("the highest", heardOf(3).heard(w, NUMBERS[w] - 1), 4);
            for (int wrong : new int[] {-1, NUMBERS[what], NUMBERS[what] + 1, 32, Integer.MAX_VALUE, Integer.MIN_VALUE}) {
                Sentence.refused(what + " of " + wrong, () -> heardOf(3), x -> x.heard(w, wrong), -1);
            }
        }
        for (int wrong : new int[] {-1, 4, 5, Integer.MAX_VALUE, Integer.MIN_VALUE}) {
            Sentence.refused("what " + wrong, () -> heardOf(3), x -> x.heard(wrong, 0), -1);
        }
        due("11", heardOf(11).heard(1, 0), 12);
        Sentence.refused("12", () -> heardOf(12), x -> x.heard(1, 1), -1);
        ShadowSpaces x = heardOf(12);
        x.heard(1, 1);
        due("nothing was heard by that", x.fits(), 6);
        says(33, "It is forgotten: how many there were.");
        due("none", some().forget(), 0);
        due("12", x.forget(), 12);
        due("none then", x.count(6) * 10 + x.forget(), 0);
        due("it can be heard again", x.heard(0, 1), 1);
        due("that alone", x.fits(), 1);
        x.saw(0, 0, 0);
        x.heard(3, 5);
        x.forget();
        due("what was seen stays", x.count(7), 1);
        due("nothing is left of what was heard", x.fits(), 6);
        x.heard(2, 0);
        due("nor behind what is heard then", x.fits(), 6);
    }

    private static void fits() {
        says(34, "FRAMES that fit all that was heard now: how many;");
        due("of nothing all", some().fits(), 6);
        due("each of two", fitting(1, 0, 2, 1), 2);
        due("each of three", fitting(1, 0, 2, 1, 0, 1), 1);
        due("none", fitting(0, 0, 0, 1), 0);
        due("no FRAMES", new ShadowSpaces().fits(), 0);
        ShadowSpaces x = some();
        x.heard(2, 9);
        due("now", x.fits(), 1);
        x.writes(0, 7, 95);
        due("what came, too", x.fits(), 2);
        x.ends(0);
        due("what is gone not", x.fits(), 1);
        due("64", Build.fill(Build.calm("00"), 0, 64).fits(), 64);
        says(34, "the ROW: the least OBJECT, PAGE (nothing without).");
        Sentence.question("OBJECT 0, PAGE 0", GuessEdges::some, y -> y.fits(), 6, 0, 0);
        Sentence.told("the less OBJECT first", Build.calm("00....55", "0055"), y -> y.fits(), 2, 0, 2);
        Sentence.told("OBJECT 2 alone", only(0, 2), y -> y.fits(), 1, 2, 0);
        Sentence.told("PAGE 3 alone", only(1, 3), y -> y.fits(), 1, 0, 3);
        Sentence.told("nothing", only(1, 7), y -> y.fits(), 0);
    }

    /** Four FRAMES of like values in OBJECTS and PAGES of their own; SPACE 0 has two of them. */
    private static ShadowSpaces spread() {
        ShadowSpaces x = Build.calm("0055", "00....55", "00......55");
        x.forks(0);
        x.writes(0, 1, 55);
        return x;
    }

    private static ShadowSpaces only(int what, int v) {
        ShadowSpaces x = some();
        x.heard(what, v);
        return x;
    }

    /** Of FRAMES told as OBJECT, PAGE, value, SPACES that have it: the best question and how many are left at most. */
    private static int[] bestQuestion(List<int[]> frames) {
        int[] best = {-2, Integer.MAX_VALUE};
        for (int what = 0; what < 4; what++) {
            for (int v = 0; v < NUMBERS[what]; v++) {
                int so = 0;
                for (int[] f : frames) {
                    so += (what == 2 ? f[2] >= 10 * v : what == 3 ? (f[3] >> v & 1) == 1 : f[what] == v) ? 1 : 0;
                }
                int left = Math.max(so, frames.size() - so);
                if (left < best[1]) {
                    best = new int[] {100 * what + v, left};
                }
            }
        }
        return best;
    }

    private static List<int[]> framesOf(ShadowSpaces x) {
        List<int[]> all = new ArrayList<>();
        for (int o = 0; o < 24; o++) {
            for (int p = 0; p < 8 && (x.count(1) >> o & 1) == 1; p++) {
                if ((x.object(o, 0) >> p & 1) == 1) {
                    all.add(new int[] {o, p, x.page(o, p), spacesWith(x, o, p)});
                }
            }
        }
        return all;
    }

    private static int spacesWith(ShadowSpaces x, int object, int page) {
        int set = 0;
        for (int s = 0; s < 6; s++) {
            int n = x.chain(s);
            int found = -1;
            for (int i = 0; i < n && found < 0; i++) {
                int o = (int) x.row(i);
                found = (x.object(o, 0) >> page & 1) == 1 ? o : -1;
            }
            set |= found == object ? 1 << s : 0;
        }
        return set;
    }

    private static void asks() {
        says(35, "What to ask next, so that, it is so or not, the fewest such FRAMES are left at most:");
        Sentence.Made[] mades = {GuessEdges::some, () -> Build.calm("0011"), () -> Build.calm("001122"), () -> Build.calm("00", "00", "00112233"),
            () -> Build.calm("001010101010101010"), () -> Build.calm("000919293949"), () -> Build.deepen(Build.calm("0011"), 0, 6),
            () -> Build.fork(Build.calm("00112233", "0044"), 0), () -> Build.calm("00..............77", "00..............88"),
            () -> Build.calm("0099", "0099", "0099", "0099", "0099", "0099"), GuessEdges::shared};
        for (Sentence.Made made : mades) {
            int[] best = bestQuestion(framesOf(made.make()));
            Sentence.question("best of " + framesOf(made.make()).size(), made, x -> x.asks(), best[0], best[1]);
        }
        says(35, "100 times what and v, as they may be heard, of equal ones the least: it;");
        Sentence.question("an OBJECT", () -> Build.calm("0011", "0022"), x -> x.asks(), 0, 1);
        Sentence.question("OBJECT 1, for OBJECT 0 HOLDS none", () -> Build.calm("00", "001122", "0033"), x -> x.asks(), 1, 2);
        Sentence.question("a PAGE", () -> Build.calm("001111"), x -> x.asks(), 100, 1);
        Sentence.question("PAGE 3", () -> Build.calm("00......11..22"), x -> x.asks(), 103, 1);
        Sentence.question("tens", () -> Build.calm("0011223344"), x -> x.asks(), 203, 2);
        Sentence.question("a SPACE", GuessEdges::spread, x -> x.asks(), 300, 2);
        Sentence.question("of one anything: the least", () -> Build.calm("0011"), x -> x.asks(), 0, 1);
        Sentence.question("12 were heard", () -> heardOf(12), x -> x.asks(), 100, 3);
        says(35, "the ROW: how many at most.");
        Sentence.told("of those that fit", only(0, 0), x -> x.asks(), 202, 2);
        Sentence.told("one", only(0, 1), x -> x.asks(), 0, 1);
        says(35, "-2: none fits.");
        Sentence.refused("of all that are there", () -> only(3, 5), x -> x.asks(), -2);
        Sentence.refused("no FRAMES", ShadowSpaces::new, x -> x.asks(), -2);
    }

    /** SPACES that share in many ways. */
    private static ShadowSpaces shared() {
        ShadowSpaces x = Build.calm("001122334455667788");
        x.forks(0);
        x.forks(0);
        x.forks(0);
        x.writes(1, 0, 11);
        x.writes(1, 1, 11);
        x.writes(2, 0, 11);
        x.writes(2, 2, 91);
        x.writes(3, 3, 91);
        return x;
    }

    // ---- laws

    private static ShadowSpaces seen(int... triples) {
        ShadowSpaces x = new ShadowSpaces();
        for (int i = 0; i + 2 < triples.length; i += 3) {
            x.saw(triples[i], triples[i + 1], triples[i + 2]);
        }
        return x;
    }

    private static void saw() {
        says(36, "It was seen that by n (0 .. 9) OBJECTS and t (0 .. 8) PAGES one was TIDIED (is 1) or not (0): how many such.");
        due("TIDIED", seen(4, 3, 1).laws(), 16);
        due("not", seen(4, 3, 0).laws(), 33);
        due("the least", seen(0, 0, 0).laws(), 49);
        due("none has more than a of none", seen(0, 8, 1).laws(), 0);
        due("the most", seen(9, 8, 1).laws(), 49);
        due("all have", seen(9, 8, 0).laws(), 0);
        ShadowSpaces x = new ShadowSpaces();
        for (int i = 1; i <= 10; i++) {
            due("how many", x.saw(i % 10, i % 9, i % 2), i);
            due("count", x.count(7), i);
        }
        says(36, "Refused: others, 10.");
        for (int wrong : new int[] {-1, 10, 11, Integer.MAX_VALUE, Integer.MIN_VALUE}) {
            Sentence.refused(wrong + " OBJECTS", () -> seen(4, 3, 1), y -> y.saw(wrong, 0, 0), -1);
        }
        for (int wrong : new int[] {-1, 9, 10, Integer.MAX_VALUE, Integer.MIN_VALUE}) {
            Sentence.refused(wrong + " PAGES", () -> seen(4, 3, 1), y -> y.saw(0, wrong, 0), -1);
        }
        for (int wrong : new int[] {-1, 2, 3, Integer.MAX_VALUE, Integer.MIN_VALUE}) {
            Sentence.refused("is " + wrong, () -> seen(4, 3, 1), y -> y.saw(0, 0, wrong), -1);
        }
        due("9, 8, 1", seen(4, 3, 1).saw(9, 8, 1), 2);
        due("9", sawOften(9).saw(0, 8, 1), 10);
        Sentence.refused("10", () -> sawOften(10), y -> y.saw(0, 8, 1), -1);
        ShadowSpaces full = sawOften(10);
        full.saw(0, 8, 1);
        due("nothing was seen by that", full.laws(), 49);
        says(37, "It is denied: how many there were.");
        due("none", new ShadowSpaces().denies(), 0);
        due("10", full.denies(), 10);
        due("none then", full.count(7) * 10 + full.denies(), 0);
        due("it can be seen again", full.saw(4, 3, 1), 1);
        due("that alone", full.laws(), 16);
        full.heard(0, 0);
        full.saw(0, 0, 1);
        full.denies();
        due("what was heard stays", full.count(6), 1);
        due("nothing is left of what was seen", full.laws(), 49);
        full.saw(0, 0, 0);
        due("nor behind what is seen then", full.laws(), 49);
        Sentence.told("nor for what to look at", full, y -> y.looks(), 45, 25);
    }

    private static ShadowSpaces sawOften(int n) {
        ShadowSpaces x = new ShadowSpaces();
        for (int i = 0; i < n; i++) {
            x.saw(0, 0, 0);
        }
        return x;
    }

    private static final int[][] SEEN = {{}, {4, 3, 1}, {4, 3, 0}, {3, 2, 1, 3, 0, 0}, {1, 6, 1}, {9, 0, 0}, {6, 6, 0}, {7, 6, 1, 6, 6, 0},
        {7, 0, 1}, {1, 0, 1}, {2, 5, 0, 5, 2, 0}, {9, 5, 0}, {9, 6, 0}, {6, 8, 0}, {7, 8, 0}, {0, 0, 1}, {4, 3, 1, 3, 3, 0, 9, 1, 0},
        {4, 3, 1, 3, 3, 0, 9, 2, 0}, {7, 6, 1, 6, 8, 0, 9, 5, 0}, {5, 4, 1, 5, 3, 0}, {1, 0, 1, 0, 8, 0}};

    private static boolean says(int a, int b, int n, int t) {
        return n >= a + 1 && !(t < b);
    }

    private static List<int[]> lawsOf(int[] seen) {
        List<int[]> all = new ArrayList<>();
        for (int a = 0; a <= 6; a++) {
            for (int b = 0; b <= 6; b++) {
                boolean fits = true;
                for (int i = 0; i < seen.length; i += 3) {
                    fits &= says(a, b, seen[i], seen[i + 1]) == (seen[i + 2] == 1);
                }
                if (fits) {
                    all.add(new int[] {a, b});
                }
            }
        }
        return all;
    }

    private static void laws() {
        says(38, "Laws (49 of them) that fit all that was seen: how many;");
        for (int[] seen : SEEN) {
            due("as they are told", seen(seen).laws(), lawsOf(seen).size());
        }
        due("49", new ShadowSpaces().laws(), 49);
        due("more than a: 4 are more than 3, not than 4", seen(4, 8, 1).laws(), 28);
        due("b or more: of 3 PAGES 0 .. 3", seen(9, 3, 1).laws(), 28);
        due("a is 6 at most", seen(6, 8, 0).laws(), 7);
        due("b is 6 at most", seen(9, 5, 0).laws(), 7);
        says(38, "the ROW: the least a, b (nothing without).");
        for (int[] seen : SEEN) {
            List<int[]> fitting = lawsOf(seen);
            long[] row = fitting.isEmpty() ? new long[0] : new long[] {fitting.get(0)[0], fitting.get(0)[1]};
            Sentence.question("the least", () -> seen(seen), x -> x.laws(), fitting.size(), row);
        }
        Sentence.told("a ahead of b", seen(9, 0, 0), x -> x.laws(), 42, 0, 1);
        Sentence.told("the last", seen(7, 6, 1, 6, 6, 0, 9, 5, 0), x -> x.laws(), 1, 6, 6);
        Sentence.told("nothing", seen(0, 0, 1), x -> x.laws(), 0);
    }

    private static void looks() {
        says(39, "The n, t to look at next, so that, it is TIDIED or not, the fewest laws are left at most:");
        for (int[] seen : SEEN) {
            List<int[]> fitting = lawsOf(seen);
            int[] best = bestLook(fitting);
            if (!fitting.isEmpty()) {
                Sentence.question("of " + fitting.size(), () -> seen(seen), x -> x.looks(), best[0], best[1]);
            }
        }
        says(39, "10 times n and t, of equal ones the least;");
        Sentence.told("all laws", new ShadowSpaces(), x -> x.looks(), 45, 25);
        Sentence.told("one law: the least of all", seen(7, 6, 1, 6, 6, 0, 9, 5, 0), x -> x.looks(), 0, 1);
        Sentence.told("a of two", seen(7, 6, 1, 5, 6, 0, 9, 5, 0), x -> x.looks(), 66, 1);
        Sentence.told("b of two", seen(7, 6, 1, 6, 6, 0, 9, 4, 0), x -> x.looks(), 75, 1);
        says(39, "the ROW: how many at most.");
        Sentence.told("of three", seen(7, 6, 1, 4, 6, 0, 9, 5, 0), x -> x.looks(), 56, 2);
        says(39, "-2: none fits.");
        Sentence.refused("of none", () -> seen(0, 0, 1), x -> x.looks(), -2);
        Sentence.refused("of two", () -> seen(9, 0, 1, 9, 0, 0), x -> x.looks(), -2);
    }

    private static int[] bestLook(List<int[]> fitting) {
        int[] best = {-2, Integer.MAX_VALUE};
        for (int n = 0; n <= 9; n++) {
            for (int t = 0; t <= 8; t++) {
                int so = 0;
                for (int[] law : fitting) {
                    so += says(law[0], law[1], n, t) ? 1 : 0;
                }
                int left = Math.max(so, fitting.size() - so);
                if (left < best[1]) {
                    best = new int[] {10 * n + t, left};
                }
            }
        }
        return best;
    }
}
