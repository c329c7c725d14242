import java.math.BigInteger;

/** The sentences of promises 29 to 31: storms of forks, sweeps, chances. */
final class StormEdges {
    private static final int[] WRONG = {-1, 5, 6, 32, Integer.MAX_VALUE, Integer.MIN_VALUE};

    private StormEdges() {
    }

    static void all() {
        storm();
        sweep();
        sweepRefused();
        odds();
    }

    private static void says(int promise, String words) {
        Sentence.says(promise, words);
    }

    private static void due(String what, long got, long due) {
        Sentence.due(what, got, due);
    }

    private static ShadowSpaces some() {
        return Build.calm("0011", "1722", "20", "30");
    }

    /** A CHAIN of four in SPACE 0, of which the TOP HOLDS PAGES 0 and 1; below it all can be COLLAPSED. */
    private static ShadowSpaces deep(String rule) {
        ShadowSpaces x = Build.deepen(Build.calm("00"), 0, 3);
        x.writes(0, 1, 5);
        Check.rule(x, rule);
        return x;
    }

    // ---- storm

    private static void storm() {
        says(29, "A SPACE forks n times (0 .. 5), each time into the least number that is not there,"
            + " and each of these WRITES PAGE 0, its own number, right away");
        Sentence.question("none", StormEdges::some, x -> x.storm(0, 0), 2, 4, 4);
        Sentence.question("one", StormEdges::some, x -> x.storm(0, 1), 3, 5, 5);
        Sentence.question("two", StormEdges::some, x -> x.storm(0, 2), 4, 6, 6);
        Sentence.question("five", () -> Build.calm("0011"), x -> x.storm(0, 5), 6, 6, 6);
        Sentence.question("of a PAGER: the first has no other HOLDER", () -> Build.calm("1711"), x -> x.storm(0, 1), 2, 2, 2);
        Sentence.question("the second has", () -> Build.calm("1711"), x -> x.storm(0, 2), 3, 4, 3);
        Sentence.question("no other number", () -> deep("s=2"), x -> x.storm(0, 1), 5, 5, 2);
        Sentence.question("SPACE 1", () -> deep("s=1"), x -> x.storm(0, 1), 3, 2, 2);
        Sentence.question("SPACE 2 behind it", () -> deep("s=2"), x -> x.storm(0, 2), 4, 3, 3);
        Sentence.question("the least that ended", () -> holed("s=1"), x -> x.storm(0, 1), 4, 3, 3);
        Sentence.question("then behind all", () -> holed("s=3"), x -> x.storm(0, 2), 5, 4, 4);
        Sentence.question("SPACE 0", StormEdges::without0, x -> x.storm(1, 1), 2, 2, 2);
        Sentence.question("SPACE 0, then SPACE 2", StormEdges::without0, x -> x.storm(1, 2), 3, 3, 3);
        Sentence.question("PAGE 0", () -> deep("p=0"), x -> x.storm(0, 1), 3, 2, 2);
        Sentence.question("no other PAGE", () -> deep("p>0"), x -> x.storm(0, 5), 9, 9, 6);
        Sentence.question("right away: o is 6 by the second", () -> deep("o=6"), x -> x.storm(0, 2), 4, 3, 3);
        Sentence.question("WRITES are 1 more by each", () -> deep("w=6"), x -> x.storm(0, 2), 4, 3, 3);
        due("a value that can be", Build.calm("0011").storm(0, 5), 6);
        says(29, "(done as if, as far as it can be: what is refused is left out): FRAMES then;");
        stormLeftOut();
        says(29, "the ROW: OBJECTS, SPACES that are there then.");
        Sentence.told("two and two", Build.calm("0011"), x -> x.storm(0, 1), 2, 2, 2);
        Sentence.told("24 OBJECTS", Build.crowd(Build.calm("00"), 0, 23, 23), x -> x.storm(0, 1), 24, 24, 2);
        says(29, "NONE: others.");
        for (int wrong : WRONG) {
            Sentence.refused("SPACE " + wrong, StormEdges::some, x -> x.storm(wrong, 1), -1);
        }
        Sentence.refused("one that is not there", StormEdges::some, x -> x.storm(4, 0), -1);
        for (int wrong : new int[] {-1, 6, 7, Integer.MAX_VALUE, Integer.MIN_VALUE}) {
            Sentence.refused(wrong + " times", StormEdges::some, x -> x.storm(0, wrong), -1);
        }
    }

    /** SPACES 0 and 2 are there, 1 ended. */
    private static ShadowSpaces holed(String rule) {
        ShadowSpaces x = deep("0");
        Check.tell(x, "00").spaces();
        Check.tell(x, "0099").spaces();
        x.ends(1);
        Check.rule(x, rule);
        return x;
    }

    private static ShadowSpaces without0() {
        ShadowSpaces x = Build.calm("0011", "0022");
        x.ends(0);
        return x;
    }

    private static void stormLeftOut() {
        Sentence.question("6 SPACES", () -> Build.fork(Build.calm("0011"), 0), x -> x.storm(0, 5), 1, 1, 6);
        Sentence.question("four fit", () -> Build.calm("0011", "00"), x -> x.storm(0, 5), 5, 6, 6);
        Sentence.question("24 OBJECTS: SPACES come, their WRITES not", () -> Build.crowd(Build.calm("00"), 0, 24, 40),
            x -> x.storm(0, 3), 40, 24, 4);
        Sentence.question("24 OBJECTS: none comes of a PAGER", () -> Build.crowd(Build.calm("00", "10"), 0, 24, 40),
            x -> x.storm(1, 3), 40, 24, 2);
        Sentence.question("23 OBJECTS: one WRITE", () -> Build.crowd(Build.calm("00"), 0, 23, 40), x -> x.storm(0, 3), 41, 24, 4);
        Sentence.question("23 OBJECTS: one FORK of a PAGER", () -> Build.crowd(Build.calm("00", "10"), 0, 23, 40),
            x -> x.storm(1, 3), 42, 24, 3);
        Sentence.question("64 FRAMES", () -> Build.fill(Build.calm("00"), 0, 64), x -> x.storm(0, 2), 64, 9, 3);
        Sentence.question("63 FRAMES", () -> Build.fill(Build.calm("00"), 0, 63), x -> x.storm(0, 2), 64, 10, 3);
        Sentence.question("late", StormEdges::some, x -> x.storm(2, 2), 2, 6, 6);
        Sentence.question("refused", StormEdges::some, x -> x.storm(3, 2), 2, 6, 6);
    }

    // ---- sweep

    private static void sweep() {
        says(30, "All PAGES, 0, 1, .., of a SPACE are written, v each (as storm()): OBJECTS of its CHAIN then;");
        Sentence.question("all 8", StormEdges::some, x -> x.sweep(0, 0), 1, 9, 0);
        Sentence.question("99", StormEdges::some, x -> x.sweep(0, 99), 1, 9, 0);
        Sentence.question("of a PAGER", StormEdges::some, x -> x.sweep(1, 5), 1, 9, 0);
        Sentence.question("an OBJECT comes", StormEdges::sharing, x -> x.sweep(0, 5), 3, 10, 0);
        Sentence.question("one behind the other", () -> ruled("(p=3)*(t=4)"), x -> x.sweep(0, 5), 1, 10, 0);
        Sentence.question("not backwards", () -> ruled("(p=3)*(t=5)"), x -> x.sweep(0, 5), 3, 10, 0);
        Sentence.question("up to the last", () -> ruled("(p=7)*(t=8)"), x -> x.sweep(0, 5), 1, 10, 0);
        Sentence.question("from the first", () -> ruled("(p=0)*(t=1)"), x -> x.sweep(0, 5), 1, 10, 0);
        Sentence.question("w by each", () -> ruled("(p=5)*(w=0)"), x -> x.sweep(0, 5), 1, 10, 0);
        ShadowSpaces pushed = Build.calm("1711");
        pushed.forks(0);
        Sentence.told("its COPY gets each", pushed, x -> x.sweep(0, 5), 1, 16, 0);
    }

    /** A CHAIN of two in SPACE 0, whose TOP SPACE 1 has, too; each HOLDS PAGE 0. One WRITE is done. */
    private static ShadowSpaces sharing() {
        ShadowSpaces x = Build.deepen(Build.calm("0011"), 0, 1);
        x.forks(0);
        return x;
    }

    private static ShadowSpaces ruled(String rule) {
        ShadowSpaces x = sharing();
        Check.rule(x, rule);
        return x;
    }

    private static void sweepRefused() {
        says(30, "the ROW: FRAMES then, how many WRITES were refused.");
        Sentence.question("late ones", StormEdges::some, x -> x.sweep(2, 5), 1, 2, 8);
        Sentence.question("refused ones", StormEdges::some, x -> x.sweep(3, 5), 1, 2, 8);
        Sentence.question("those that are not HELD", () -> Build.calm("2011..22"), x -> x.sweep(0, 5), 1, 2, 6);
        Sentence.question("those that are not HELD", () -> Build.calm("30112233........88"), x -> x.sweep(0, 5), 1, 4, 4);
        Sentence.question("64 FRAMES, all are HELD", () -> Build.fill(Build.calm("00"), 0, 64), x -> x.sweep(0, 5), 9, 64, 0);
        Sentence.question("64 FRAMES", () -> with(Build.fill(Build.calm("00"), 0, 64)), x -> x.sweep(1, 5), 1, 64, 8);
        Sentence.question("61 FRAMES", () -> with(Build.fill(Build.calm("00"), 0, 61)), x -> x.sweep(1, 5), 1, 64, 5);
        Sentence.question("24 OBJECTS", () -> forked(Build.crowd(Build.calm("0011"), 0, 24, 30)), x -> x.sweep(0, 5), 24, 30, 8);
        Sentence.question("23 OBJECTS", () -> forked(Build.crowd(Build.calm("0011"), 0, 23, 30)), x -> x.sweep(0, 5), 24, 38, 0);
        says(30, "NONE: others.");
        for (int wrong : WRONG) {
            Sentence.refused("SPACE " + wrong, StormEdges::some, x -> x.sweep(wrong, 5), -1);
        }
        Sentence.refused("one that is not there", StormEdges::some, x -> x.sweep(4, 5), -1);
        for (int wrong : new int[] {-1, 100, Integer.MAX_VALUE, Integer.MIN_VALUE}) {
            Sentence.refused("value " + wrong, StormEdges::some, x -> x.sweep(0, wrong), -1);
        }
    }

    private static ShadowSpaces with(ShadowSpaces x) {
        Check.tell(x, "00").spaces();
        return x;
    }

    private static ShadowSpaces forked(ShadowSpaces x) {
        x.forks(0);
        return x;
    }

    // ---- odds

    /** By all sets of PAGES that may be written: of those in the mask k or fewer. */
    private static BigInteger[] chance(int mask, int p, int k) {
        BigInteger upper = BigInteger.ZERO;
        for (int set = 0; set < 256; set++) {
            int written = Integer.bitCount(set);
            if (Integer.bitCount(set & mask) <= k) {
                upper = upper.add(BigInteger.valueOf(p).pow(written).multiply(BigInteger.valueOf(10 - p).pow(8 - written)));
            }
        }
        BigInteger lower = BigInteger.TEN.pow(8);
        BigInteger by = upper.gcd(lower);
        return new BigInteger[] {upper.divide(by), lower.divide(by)};
    }

    private static void allOdds(String what, Sentence.Made made, int space, int mask) {
        for (int p = 0; p <= 10; p++) {
            ShadowSpaces x = made.make();
            for (int k = 0; k <= 8; k++) {
                BigInteger[] due = chance(mask, p, k);
                due(what, x.odds(space, p, k), 0);
                Sentence.row(what + ", p " + p + ", k " + k, x, due[0].longValueExact(), due[1].longValueExact());
            }
        }
    }

    private static void odds() {
        says(31, "Each of the 8 PAGES of a SPACE is written by p tenths (0 .. 10), each by itself:"
            + " how likely k (0 .. 8) or fewer of those that its TOP does not HOLD");
        for (int held = 0; held <= 8; held++) {
            String text = "000011223344556677".substring(0, 2 + 2 * held);
            allOdds(held + " are HELD", () -> Check.with(text), 0, 255 & ~((1 << held) - 1));
        }
        allOdds("HELD by its SHADOW alone", StormEdges::written, 1, 253);
        says(31, "(all, if it SHARES and is not the only HOLDER)");
        allOdds("two SPACES", () -> forked(Check.with("000011223344556677")), 0, 255);
        due("it SHARES", alone().space(1, 1), 1);
        allOdds("the only HOLDER", StormEdges::alone, 1, 0);
        allOdds("it SHARES, an OBJECT has its TOP as SHADOW", StormEdges::copied, 2, 255);
        allOdds("it does not SHARE", StormEdges::copied, 1, 254);
        allOdds("not the only HOLDER, but it does not SHARE", () -> forked(Check.with("1711")), 0, 254);
        says(31, "are: 0;");
        due("0", some().odds(0, 5, 5), 0);
        says(31, "the ROW: the fraction.");
        Sentence.question("one of 128", StormEdges::some, x -> x.odds(0, 5, 0), 0, 1, 128);
        Sentence.question("never", StormEdges::some, x -> x.odds(0, 10, 6), 0, 0, 1);
        Sentence.question("always", StormEdges::some, x -> x.odds(0, 10, 7), 0, 1, 1);
        Sentence.question("p is 0", StormEdges::some, x -> x.odds(2, 0, 0), 0, 1, 1);
        Sentence.question("the longest", StormEdges::some, x -> x.odds(2, 9, 7), 0, 56953279, 100000000);
        says(31, "NONE: others.");
        for (int wrong : WRONG) {
            Sentence.refused("SPACE " + wrong, StormEdges::some, x -> x.odds(wrong, 5, 5), -1);
        }
        Sentence.refused("one that is not there", StormEdges::some, x -> x.odds(4, 5, 5), -1);
        for (int wrong : new int[] {-1, 11, 12, Integer.MAX_VALUE, Integer.MIN_VALUE}) {
            Sentence.refused(wrong + " tenths", StormEdges::some, x -> x.odds(0, wrong, 5), -1);
        }
        for (int wrong : new int[] {-1, 9, 10, Integer.MAX_VALUE, Integer.MIN_VALUE}) {
            Sentence.refused("k " + wrong, StormEdges::some, x -> x.odds(0, 5, wrong), -1);
        }
    }

    /** SPACE 1's TOP HOLDS PAGE 1 alone, its SHADOW PAGE 0. */
    private static ShadowSpaces written() {
        ShadowSpaces x = forked(Build.calm("0011"));
        x.writes(1, 1, 5);
        return x;
    }

    /** SPACE 1 SHARES still, but the other one ended. */
    private static ShadowSpaces alone() {
        ShadowSpaces x = forked(Check.with("000011223344556677"));
        x.ends(0);
        return x;
    }

    /** SPACES 1 and 2 are COPIES; what SPACE 1 wrote has SPACE 2's TOP as SHADOW. */
    private static ShadowSpaces copied() {
        ShadowSpaces x = forked(forked(Build.calm("1711")));
        x.writes(1, 0, 5);
        return x;
    }
}
