/** The sentences of promises 40 to 43: the game of pages, writers at rest, another RULE, days drawn by a seed. */
final class GameEdges {
    private GameEdges() {
    }

    static void all() {
        pages();
        rests();
        law();
        lawWrong();
        years();
        yearsOfEach();
        draws();
    }

    private static void says(int promise, String words) {
        Sentence.says(promise, words);
    }

    private static void due(String what, long got, long due) {
        Sentence.due(what, got, due);
    }

    // ---- pages

    /** Grundy's numbers of rows up to 60. */
    private static int[] worths() {
        int[] worth = new int[61];
        for (int n = 1; n <= 60; n++) {
            boolean[] reached = new boolean[256];
            for (int from = 0; from < n; from++) {
                for (int to = from + 1; to <= Math.min(n, from + 3); to++) {
                    reached[worth[from] ^ worth[n - to]] = true;
                }
            }
            while (reached[worth[n]]) {
                worth[n]++;
            }
        }
        return worth;
    }

    private static void pages() {
        says(40, "Two take by turns out of a row of n (0 .. 60) pages 1, 2 or 3 that are beside each other (others stay where they are);");
        ShadowSpaces x = new ShadowSpaces();
        Model model = new Model();
        for (int n = 0; n <= 20; n++) {
            due(n + " by search", x.pages(n), model.pages(n));
            Sentence.due(n + " by search, the ROW", Check.row(x), model.row);
        }
        says(40, "who takes the last one has won: 1 if the first one wins by best play, else 0;");
        due("none can be taken: he has lost", x.pages(0), 0);
        for (int n = 1; n <= 60; n++) {
            due(n + ": the middle first, then the like on the other side", x.pages(n), 1);
        }
        says(40, "the ROW: how many he takes, how many are to the left of these (the least such row; nothing without).");
        int[] worth = worths();
        for (int n = 1; n <= 60; n++) {
            int m = n;
            long[] least = leastMove(worth, n);
            Sentence.question(n + " pages", () -> Check.with("0011"), y -> y.pages(m), 1, least);
        }
        Sentence.question("none", () -> Check.with("0011"), y -> y.pages(0), 0);
        Sentence.told("all of 1", x, y -> y.pages(1), 1, 1, 0);
        Sentence.told("all of 2", x, y -> y.pages(2), 1, 2, 0);
        Sentence.told("of 3 the middle, though all might be taken", x, y -> y.pages(3), 1, 1, 1);
        Sentence.told("of 4 two in the middle", x, y -> y.pages(4), 1, 2, 1);
        says(40, "NONE: another n.");
        for (int wrong : new int[] {-1, 61, 62, Integer.MAX_VALUE, Integer.MIN_VALUE}) {
            Sentence.refused("" + wrong, () -> Check.with("0011"), y -> y.pages(wrong), -1);
        }
    }

    private static long[] leastMove(int[] worth, int n) {
        for (int taken = 1; taken <= 3; taken++) {
            for (int left = 0; left + taken <= n; left++) {
                if (worth[left] == worth[n - taken - left]) {
                    return new long[] {taken, left};
                }
            }
        }
        return new long[0];
    }

    // ---- rests

    private static int has(int v, int own, int others) {
        int more = own - others;
        return more < 0 ? v - own : more == 0 ? v / 3 - own : v / 2 - more - more;
    }

    private static boolean rests(int v, int x, int y) {
        for (int z = 0; z <= 9; z++) {
            if (has(v, z, y) > has(v, x, y) || has(v, z, x) > has(v, y, x)) {
                return false;
            }
        }
        return true;
    }

    private static void rests() {
        says(41, "Two write x and y (0 .. 9) times to a page that is shared, worth v (0 .. 20): who writes less has v, less his writes,");
        due("0: the first one alone", new ShadowSpaces().rests(0), 1);
        due("20", Sentence.bit(new ShadowSpaces().rests(20) >= 0), 1);
        says(41, "the other one half of v (cut), less 2 for each that he writes more,");
        due("as it is told", new ShadowSpaces().rests(5), restsOf(5)[0]);
        says(41, "like ones a third of v each (cut), less their writes.");
        due("as it is told", new ShadowSpaces().rests(8), restsOf(8)[0]);
        says(41, "Pairs by which neither would have more by another number alone: how many;");
        for (int v = 0; v <= 20; v++) {
            due("worth " + v, new ShadowSpaces().rests(v), restsOf(v)[0]);
        }
        says(41, "the ROW: the least (nothing without).");
        for (int v = 0; v <= 20; v++) {
            int worth = v;
            long[] of = restsOf(v);
            long[] row = of[0] == 0 ? new long[0] : new long[] {of[1], of[2]};
            Sentence.question("worth " + v, () -> Check.with("0011"), x -> x.rests(worth), of[0], row);
        }
        says(41, "NONE: another v.");
        for (int wrong : new int[] {-1, 21, 22, Integer.MAX_VALUE, Integer.MIN_VALUE}) {
            Sentence.refused("" + wrong, () -> Check.with("0011"), x -> x.rests(wrong), -1);
        }
    }

    /** How many, then the least. */
    private static long[] restsOf(int v) {
        long[] all = {0, 0, 0};
        for (int x = 9; x >= 0; x--) {
            for (int y = 9; y >= 0; y--) {
                if (rests(v, x, y)) {
                    all = new long[] {all[0] + 1, x, y};
                }
            }
        }
        return all;
    }

    // ---- law

    private static ShadowSpaces untidy() {
        ShadowSpaces x = Build.deepen(Build.calm("0011", "1722", "20", "30"), 0, 2);
        x.forks(0);
        Build.deepen(x, 0, 1);
        x.forks(1);
        Check.rule(x, "n>3");
        return x;
    }

    /** FRAMES and OBJECTS behind the WRITES, done in truth by that RULE. */
    private static long[] lived(Sentence.Made made, String rule) {
        ShadowSpaces x = made.make();
        Check.tell(x, rule).rule();
        for (int s = 0; s < 6; s++) {
            x.writes(s, 0, 7);
            x.writes(s, 1, 7);
        }
        return new long[] {x.count(2), Integer.bitCount(x.count(1))};
    }

    private static void tells(String what, Sentence.Made made, String other, String own) {
        long[] by = lived(made, other);
        long[] than = lived(made, own);
        Sentence.question(what + ": " + other + " and " + own, () -> owned(made, own), x -> Check.tell(x, other).law(), by[0] - than[0],
            by[0], than[0], by[1], than[1]);
    }

    private static ShadowSpaces owned(Sentence.Made made, String own) {
        ShadowSpaces x = made.make();
        Check.tell(x, own).rule();
        return x;
    }

    private static void law() {
        says(42, "THE TEXT is another RULE (an empty one: none): FRAMES, if each SPACE that is there, by number,"
            + " would WRITE PAGES 0 and 1, 7 each, one behind the other (as storm()), by it,");
        String[] rules = {"", "0", "1", "n>1", "n>3", "p=0", "p=1", "p>1", "s=0", "s=1", "s=4", "s=5", "w=1", "w=2", "w=5", "o>7", "t=2",
            "f>9", "-1", "n>3*(s=0)"};
        for (String other : rules) {
            tells("of many", GameEdges::untidy, other, "0");
        }
        tells("none", ShadowSpaces::new, "1", "0");
        tells("all FRAMES are there", () -> Build.fill(Build.calm("00", "00"), 0, 64), "1", "0");
        tells("all but one", () -> Build.fill(Build.calm("00", "00"), 0, 63), "1", "0");
        tells("all OBJECTS are there", () -> Build.fork(Build.crowd(Build.calm("00"), 0, 24, 40), 0), "1", "0");
        says(42, "less that by THE RULE (below 0, too);");
        for (String own : rules) {
            tells("by THE RULE", GameEdges::untidy, "1", own);
            tells("by THE RULE", GameEdges::untidy, "0", own);
            tells("none is n>3", GameEdges::untidy, "", own);
        }
        due("below 0", Check.tell(owned(GameEdges::untidy, "0"), "1").law(), -3);
        due("above 0", Check.tell(owned(GameEdges::untidy, "1"), "0").law(), 3);
        due("like ones", Check.tell(owned(GameEdges::untidy, "1"), "1").law(), 0);
        says(42, "the ROW: both, by it first, then OBJECTS that are there then by it, by THE RULE.");
        Sentence.told("it first", owned(GameEdges::untidy, "0"), x -> Check.tell(x, "1").law(), -3, 8, 11, 6, 9);
        Sentence.told("it first", owned(GameEdges::untidy, "1"), x -> Check.tell(x, "0").law(), 3, 11, 8, 9, 6);
    }

    private static void lawWrong() {
        says(42, "-10000 - p: the sign at p can't stand there (as rule()).");
        String forty = "1+1+1+1+1+1+1+1+1+1+1+1+1+1+1+1+1+1+1+10";
        for (String text : new String[] {"x", "n+", "(", "-", "1000", "1<2<3", "(((((1", "()", "1)", "n>3 ", forty + "+", forty + "x",
            forty + "0", "-".repeat(41), "n" + forty, forty.substring(0, 39) + "+"}) {
            Sentence.refused(text, GameEdges::untidy, text, x -> x.law(), -10000 - Model.wrongRule(text));
            Sentence.refused(text + " as rule()", GameEdges::untidy, text, x -> x.law(), -9999 + Check.tell(new ShadowSpaces(), text).rule());
        }
        due("the first", Check.tell(untidy(), "x").law(), -10000);
        due("the end", Check.tell(untidy(), "n+").law(), -10002);
        due("40", Check.tell(untidy(), forty + "0").law(), -10040);
        due("40 signs", Sentence.bit(Check.tell(untidy(), forty).law() > -10000), 1);
    }

    // ---- years

    /** R as the document tells it, in longs. */
    private static final class Drawn {
        private long r;

        Drawn(int seed) {
            r = Integer.toUnsignedLong(seed);
        }

        int of(int n) {
            r = (r * 1103515245L + 12345L) % (1L << 32);
            return (int) (r / 65536 % n);
        }
    }

    private static ShadowSpaces lived(Sentence.Made made, int seed, int n) {
        ShadowSpaces x = made.make();
        Drawn drawn = new Drawn(seed);
        for (int i = 0; i < n; i++) {
            int act = drawn.of(4);
            int space = drawn.of(6);
            if ((x.count(0) >> space & 1) == 1) {
                live(x, drawn, act, space);
            }
        }
        return x;
    }

    private static void live(ShadowSpaces x, Drawn drawn, int act, int space) {
        if (act <= 1) {
            int page = drawn.of(8);
            x.writes(space, page, drawn.of(100));
        } else if (act == 2) {
            x.forks(space);
        } else if (drawn.of(2) == 1) {
            x.tidies(space);
        } else {
            x.ends(space);
        }
    }

    private static void asLived(String what, Sentence.Made made, int seed, int n) {
        ShadowSpaces lived = lived(made, seed, n);
        Sentence.question(what + ", seed " + seed + ", " + n + " times", made, x -> x.years(seed, n), lived.count(2), lived.count(1),
            lived.count(0));
    }

    private static ShadowSpaces some() {
        ShadowSpaces x = Build.deepen(Build.calm("0011", "1722", "20", "30"), 0, 2);
        Check.rule(x, "n>2");
        return x;
    }

    private static void years() {
        says(43, "As if n times (1 .. 40; nothing changes): a DRAW of 4, a DRAW of 6 a SPACE (if it is there):");
        for (int seed = 0; seed < 40; seed++) {
            asLived("few", GameEdges::some, seed * 777, 1 + seed % 3);
            asLived("many", GameEdges::some, seed * 77777, 40 - seed % 3);
            asLived("long chains", GameEdges::untidy, -seed, 1 + seed);
        }
        asLived("once", GameEdges::some, 5, 1);
        asLived("40", GameEdges::some, 5, 40);
        asLived("no SPACES", ShadowSpaces::new, 5, 40);
        asLived("all FRAMES", () -> Build.fill(Build.calm("00", "10"), 0, 64), 6, 20);
        asLived("all OBJECTS", () -> Build.fork(Build.crowd(Build.calm("00", "10"), 0, 24, 40), 0), 7, 20);
    }

    /** The least seed from one on by which the first DRAWS are these. */
    private static int seedOf(int from, int... pairs) {
        for (int seed = from; seed < from + 100000000; seed++) {
            Drawn drawn = new Drawn(seed);
            boolean good = true;
            for (int i = 0; i < pairs.length && good; i += 2) {
                good = drawn.of(pairs[i]) == pairs[i + 1];
            }
            if (good) {
                return seed;
            }
        }
        throw new IllegalStateException();
    }

    private static void yearsOfEach() {
        says(43, "0, 1: a DRAW of 8 a PAGE, a DRAW of 100 a value: writes();");
        for (int act = 0; act <= 1; act++) {
            Sentence.question("a PAGE that is HELD", () -> Check.with("0011"), y -> y.years(seedHeld(), 1), 1, 1, 1);
            int newPage = seedOf(100, 4, act, 6, 0, 8, 5);
            Sentence.question("act " + act, () -> Check.with("0011"), y -> y.years(newPage, 1), 2, 1, 1);
            int both = seedOf(0, 4, act, 6, 0, 8, 5, 100, 42, 4, 1 - act, 6, 0, 8, 5);
            Sentence.question("twice one PAGE: the value is drawn between", () -> Check.with("0011"), y -> y.years(both, 2), 2, 1, 1);
        }
        says(43, "2: forks();");
        int forks = seedOf(0, 4, 2, 6, 1);
        Sentence.question("of PAGER 0", () -> Check.with("0011", "00"), x -> x.years(forks, 1), 1, 3, 7);
        Sentence.question("of a PAGER", () -> Check.with("0011", "10"), x -> x.years(forks, 1), 1, 7, 7);
        int forksThenForks = seedOf(0, 4, 2, 6, 0, 4, 2, 6, 1);
        Sentence.question("no DRAW behind it", () -> Check.with("0011"), x -> x.years(forksThenForks, 2), 1, 1, 7);
        says(43, "3: a DRAW of 2: 0: ends(), 1: tidies()");
        int ends = seedOf(0, 4, 3, 6, 0, 2, 0);
        int tidies = seedOf(0, 4, 3, 6, 0, 2, 1);
        Sentence.question("ends", () -> Build.deepen(Build.calm("0011", "0022"), 0, 2), x -> x.years(ends, 1), 1, 2, 2);
        Sentence.question("tidies", () -> Build.deepen(Build.calm("0011", "0022"), 0, 2), x -> x.years(tidies, 1), 2, 10, 3);
        says(43, "(each if it can be; nothing more than these two DRAWS, if the SPACE is not there): FRAMES then;");
        Sentence.question("a 7th SPACE", () -> Build.fork(Check.with("0011"), 0), x -> x.years(forks, 1), 1, 1, 63);
        Sentence.question("late", () -> Check.with("20"), x -> x.years(seedOf(0, 4, 0, 6, 0), 1), 0, 1, 1);
        Sentence.question("refused", () -> Check.with("30"), x -> x.years(seedOf(0, 4, 0, 6, 0), 1), 0, 1, 1);
        for (int act = 0; act < 4; act++) {
            int notThere = seedOf(0, 4, act, 6, 4, 4, 2, 6, 0);
            Sentence.question("no DRAW behind act " + act, () -> Check.with("0011"), x -> x.years(notThere, 2), 1, 1, 3);
        }
        int gone = seedOf(0, 4, 3, 6, 0, 2, 0, 4, 0, 6, 0, 4, 2, 6, 1);
        Sentence.question("one that ended", () -> Check.with("0011", "0022"), x -> x.years(gone, 3), 1, 2, 3);
        says(43, "the ROW: OBJECTS (bits), SPACES (bits) that are there then.");
        Sentence.question("bits", () -> Check.with("0011", "0022", "0033"), x -> x.years(seedOf(0, 4, 3, 6, 1, 2, 0), 1), 2, 5, 5);
        Sentence.question("none", () -> Check.with("0011"), x -> x.years(ends, 1), 0, 0, 0);
        says(43, "NONE: another n.");
        for (int wrong : new int[] {-1, 0, 41, 42, Integer.MAX_VALUE, Integer.MIN_VALUE}) {
            Sentence.refused(wrong + " times", GameEdges::some, x -> x.years(5, wrong), -1);
        }
    }

    private static int seedHeld() {
        return seedOf(0, 4, 1, 6, 0, 8, 0);
    }

    private static void draws() {
        says(43, "A DRAW of n: R = R times 1103515245 + 12345 (as ints; R is seed at first), (R without sign, by 65536) % n.");
        int[] seeds = {0, 1, -1, 2, -2, 65535, 65536, -65536, 12345, Integer.MAX_VALUE, Integer.MIN_VALUE, Integer.MAX_VALUE - 1,
            Integer.MIN_VALUE + 1, 1103515245, -1103515245, 1 << 30};
        for (int seed : seeds) {
            asLived("an edge", GameEdges::some, seed, 40);
            asLived("an edge", GameEdges::untidy, seed, 3);
        }
        int negative = 0;
        for (int seed = 0; negative < 20; seed += 7) {
            if (seed * 1103515245 + 12345 < 0) {
                negative++;
                asLived("R is below 0", GameEdges::some, seed, 2);
            }
        }
    }
}
