/** The sentences of promises 18 to 28: who holds what, what is shared, what differs, what is hidden, what tidying would do. */
final class HoldEdges {
    private static final int[] WRONG = {-1, 6, 7, 32, 64, Integer.MAX_VALUE, Integer.MIN_VALUE};

    private HoldEdges() {
    }

    static void all() {
        chain();
        peeks();
        holders();
        shared();
        differ();
        common();
        hidden();
        frames();
        deepest();
        would();
        frees();
    }

    private static void says(int promise, String words) {
        Sentence.says(promise, words);
    }

    private static void due(String what, long got, long due) {
        Sentence.due(what, got, due);
    }

    /** SPACE 0 of a PAGER, SPACES 1 and 2 its COPIES, SPACE 3 shares with SPACE 2, SPACE 4 is late. */
    private static ShadowSpaces some() {
        ShadowSpaces x = Build.calm("1711");
        x.forks(0);
        x.forks(0);
        x.forks(2);
        Check.tell(x, "20").spaces();
        x.writes(1, 2, 22);
        return x;
    }

    private static void chain() {
        says(18, "OBJECTS of THE CHAIN of a SPACE: how many;");
        ShadowSpaces x = some();
        due("one", x.chain(0), 1);
        due("two", x.chain(2), 2);
        due("three", x.chain(1), 3);
        due("24", Build.deepen(Build.calm("00"), 0, 23).chain(0), 24);
        says(18, "the ROW: they, from its TOP on.");
        Sentence.question("three", HoldEdges::some, y -> y.chain(1), 3, 1, 2, 0);
        Sentence.question("one", HoldEdges::some, y -> y.chain(4), 1, 3);
        ShadowSpaces deep = Build.deepen(Build.calm("00"), 0, 23);
        Sentence.told("24", deep, y -> y.chain(0), 24, 23, 22, 21, 20, 19, 18, 17, 16, 15, 14, 13, 12, 11, 10, 9, 8, 7, 6, 5, 4, 3, 2, 1, 0);
        says(18, "NONE: none such.");
        for (int wrong : WRONG) {
            Sentence.refused("SPACE " + wrong, HoldEdges::some, y -> y.chain(wrong), -1);
        }
        Sentence.refused("one that is not there", HoldEdges::some, y -> y.chain(5), -1);
    }

    private static void peeks() {
        says(19, "The value that reads() would tell, were there FRAMES enough, but that nothing changes;");
        Sentence.question("HELD", HoldEdges::some, x -> x.peeks(1, 2), 22, 0);
        Sentence.question("of a PAGER", HoldEdges::some, x -> x.peeks(0, 7), 77, 1);
        Sentence.question("of a PAGER, below", HoldEdges::some, x -> x.peeks(1, 7), 77, 3);
        Sentence.question("0 of none", () -> Build.calm("0011"), x -> x.peeks(0, 7), 0, 1);
        Sentence.Made full = () -> Build.fill(Build.calm("1711", "00"), 1, 64);
        due("no FRAME is left", full.make().reads(0, 7), -5);
        Sentence.question("were there enough", full, x -> x.peeks(0, 7), 77, 1);
        says(19, "the ROW: as reads().");
        for (int space = 0; space < 4; space++) {
            for (int page = 0; page < 8; page++) {
                ShadowSpaces asked = some();
                ShadowSpaces read = some();
                due("value", asked.peeks(space, page), read.reads(space, page));
                Sentence.row("place", asked, read.row(0));
            }
        }
        says(19, "-3 (also, if it is AWAITED already), -4: as reads();");
        Sentence.refused("-3", HoldEdges::some, x -> x.peeks(4, 5), -3);
        Sentence.refused("AWAITED already", HoldEdges::awaited, x -> x.peeks(4, 5), -3);
        Sentence.refused("another PAGE", HoldEdges::awaited, x -> x.peeks(4, 4), -3);
        Sentence.refused("-4", () -> Check.with("3011"), x -> x.peeks(0, 7), -4);
        due("what is HELD is not refused", Check.with("3011").peeks(0, 0), 11);
        ShadowSpaces come = awaited();
        come.arrives(3, 5, 9);
        due("it arrived", come.peeks(4, 5), 9);
        says(19, "NONE: others.");
        for (int wrong : WRONG) {
            Sentence.refused("SPACE " + wrong, HoldEdges::some, x -> x.peeks(wrong, 0), -1);
        }
        Sentence.refused("one that is not there", HoldEdges::some, x -> x.peeks(5, 0), -1);
        for (int wrong : new int[] {-1, 8, 32, 34, Integer.MAX_VALUE, Integer.MIN_VALUE}) {
            Sentence.refused("PAGE " + wrong, HoldEdges::some, x -> x.peeks(0, wrong), -1);
            Sentence.refused("ahead of -3", HoldEdges::some, x -> x.peeks(4, wrong), -1);
        }
    }

    private static ShadowSpaces awaited() {
        ShadowSpaces x = some();
        x.reads(4, 5);
        return x;
    }

    private static void holders() {
        says(20, "SPACES in whose CHAIN an OBJECT is (bits): them;");
        int[] due = {15, 2, 14, 16};
        for (int o = 0; o < 4; o++) {
            due("OBJECT " + o, some().holders(o), due[o]);
        }
        due("all six", Build.fork(Build.calm("00"), 0).holders(0), 63);
        says(20, "the ROW: how many.");
        for (int o = 0; o < 4; o++) {
            int object = o;
            Sentence.question("OBJECT " + o, HoldEdges::some, x -> x.holders(object), due[o], Integer.bitCount(due[o]));
        }
        says(20, "NONE: none such.");
        for (int wrong : new int[] {-1, 4, 23, 24, 25, 32, Integer.MAX_VALUE, Integer.MIN_VALUE}) {
            Sentence.refused("OBJECT " + wrong, HoldEdges::some, x -> x.holders(wrong), -1);
        }
        ShadowSpaces x = some();
        x.ends(4);
        due("one that was FREED", x.holders(3), -1);
    }

    private interface Two {
        int of(ShadowSpaces x, int one, int other);
    }

    /** NONE: none such, like ones; either of both may be it. */
    private static void refusesTwo(Two two) {
        for (int wrong : WRONG) {
            Sentence.refused("one is " + wrong, HoldEdges::some, x -> two.of(x, wrong, 1), -1);
            Sentence.refused("the other is " + wrong, HoldEdges::some, x -> two.of(x, 1, wrong), -1);
            Sentence.refused("both are " + wrong, HoldEdges::some, x -> two.of(x, wrong, wrong), -1);
        }
        Sentence.refused("one is not there", HoldEdges::some, x -> two.of(x, 5, 1), -1);
        Sentence.refused("the other is not there", HoldEdges::some, x -> two.of(x, 1, 5), -1);
        for (int s = 0; s < 5; s++) {
            int same = s;
            Sentence.refused("like ones", HoldEdges::some, x -> two.of(x, same, same), -1);
        }
    }

    private static void shared() {
        says(21, "PAGES of two SPACES that both have of one FRAME (bits; of one OBJECT that HOLDS it): them;");
        ShadowSpaces x = Build.calm("00112233......88", "0011");
        x.forks(0);
        due("one TOP", x.shared(0, 2), 71);
        x.writes(0, 1, 22);
        due("a like value is not one FRAME", x.shared(0, 2), 69);
        due("either way", x.shared(2, 0), 69);
        due("of others none", x.shared(0, 1), 0);
        x.writes(0, 5, 5);
        due("what one alone HOLDS", x.shared(0, 2), 69);
        due("of a PAGER that is not asked none", some().shared(2, 3), 5);
        ShadowSpaces all = Check.with("000011223344556677");
        all.forks(0);
        due("all 8", all.shared(0, 1), 255);
        says(21, "the ROW: how many.");
        Sentence.question("one", HoldEdges::some, y -> y.shared(1, 2), 1, 1);
        Sentence.question("none", HoldEdges::some, y -> y.shared(1, 4), 0, 0);
        Sentence.told("all 8", all, y -> y.shared(1, 0), 255, 8);
        says(21, "NONE: none such, like ones.");
        refusesTwo((y, one, other) -> y.shared(one, other));
    }

    private static void differ() {
        says(22, "PAGES of two SPACES that are not alike (bits): peeks() of both tells another value");
        ShadowSpaces x = Build.calm("00112233", "00112200", "17", "1701");
        due("one", x.differ(0, 1), 4);
        due("0 and what is not HELD are alike", Build.calm("0000", "00").differ(0, 1), 0);
        due("like ones of other OBJECTS", Build.calm("00112233", "00112233").differ(0, 1), 0);
        due("of PAGERS", x.differ(0, 2), 255);
        due("HELD and of a PAGER", x.differ(2, 3), 1);
        due("what a PAGER would tell is HELD", Build.calm("17", "0070").differ(0, 1), 254);
        due("the last PAGE alone", Build.calm("00..............11", "00").differ(0, 1), 128);
        due("either way", x.differ(1, 0), 4);
        says(22, "(also, if of one or both it tells none: -3 and -4 are other ones, too): them;");
        ShadowSpaces none = Build.calm("0000112233", "20", "30", "20112233", "30112233", "20");
        due("a value and -3", none.differ(0, 1), 255);
        due("a value and -4", none.differ(0, 2), 255);
        due("-3 and -4", none.differ(1, 2), 255);
        due("values, behind them -3 and -4", none.differ(3, 4), 248);
        due("of both none", none.differ(1, 5), 255);
        due("-3 and 0", Build.calm("20", "00").differ(0, 1), 255);
        none.reads(1, 0);
        due("AWAITED or not", none.differ(1, 2), 255);
        says(22, "the ROW: how many.");
        Sentence.question("one", HoldEdges::some, y -> y.differ(1, 2), 4, 1);
        Sentence.question("none", HoldEdges::some, y -> y.differ(2, 3), 0, 0);
        Sentence.question("all", HoldEdges::some, y -> y.differ(2, 4), 255, 8);
        says(22, "NONE: as shared().");
        refusesTwo((y, one, other) -> y.differ(one, other));
    }

    private static void common() {
        says(23, "The first OBJECT of THE CHAIN of one SPACE that is in that of another one, too: it;");
        due("a TOP of both", some().common(2, 3), 2);
        due("below one", some().common(1, 2), 2);
        due("the last of all", some().common(0, 1), 0);
        due("either way", some().common(1, 0), 0);
        ShadowSpaces x = Build.deepen(Build.calm("00"), 0, 2);
        x.forks(0);
        x.writes(0, 0, 1);
        x.writes(1, 0, 1);
        due("below both", x.common(0, 1), 2);
        says(23, "the ROW: its place in both (0: TOP).");
        Sentence.question("both TOPS", HoldEdges::some, y -> y.common(2, 3), 2, 0, 0);
        Sentence.question("the one's first", HoldEdges::some, y -> y.common(1, 2), 2, 1, 0);
        Sentence.question("the one's first", HoldEdges::some, y -> y.common(2, 1), 2, 0, 1);
        Sentence.question("the last", HoldEdges::some, y -> y.common(0, 1), 0, 0, 2);
        Sentence.told("below both", x, y -> y.common(1, 0), 2, 1, 1);
        says(23, "-2: there is none;");
        Sentence.refused("of others", HoldEdges::some, y -> y.common(1, 4), -2);
        Sentence.refused("of others", HoldEdges::some, y -> y.common(4, 0), -2);
        says(23, "NONE: as shared().");
        refusesTwo((y, one, other) -> y.common(one, other));
    }

    /** PAGES 0 and 1 of OBJECT 0 are seen by none, PAGE 2 by one. */
    private static ShadowSpaces hiding() {
        ShadowSpaces x = Build.calm("00112233");
        x.forks(0);
        x.writes(0, 0, 1);
        x.writes(0, 1, 1);
        x.writes(0, 2, 1);
        x.writes(1, 1, 1);
        x.writes(1, 0, 1);
        return x;
    }

    private static void hidden() {
        says(24, "FRAMES that no SPACE has (in each CHAIN that goes to it an OBJECT ahead HOLDS the PAGE): how many;");
        due("none", some().hidden(), 0);
        due("two", hiding().hidden(), 2);
        ShadowSpaces x = hiding();
        x.ends(0);
        due("one more that one alone saw", x.hidden(), 2);
        ShadowSpaces deep = Build.deepen(Build.calm("0011"), 0, 5);
        due("of a CHAIN all but the first", deep.hidden(), 5);
        deep.forks(0);
        deep.ends(0);
        due("though it SHARES", deep.hidden(), 5);
        ShadowSpaces one = Build.calm("0011");
        one.forks(0);
        one.writes(0, 0, 5);
        due("another SPACE has it", one.hidden(), 0);
        one.ends(1);
        due("it ended", one.hidden(), 1);
        says(24, "the ROW: the least OBJECT, PAGE (nothing without).");
        Sentence.question("PAGE 0 ahead of PAGE 1", HoldEdges::hiding, y -> y.hidden(), 2, 0, 0);
        Sentence.question("none", HoldEdges::some, y -> y.hidden(), 0);
        Sentence.told("OBJECT 0 ahead of others", Build.deepen(Build.calm("00..11"), 0, 3), y -> y.hidden(), 2, 1, 0);
        ShadowSpaces last = Build.calm("0011", "00..............11");
        last.forks(1);
        last.writes(1, 7, 5);
        last.writes(2, 7, 5);
        Sentence.told("the last PAGE", last, y -> y.hidden(), 1, 1, 7);
        Sentence.told("no SPACES", new ShadowSpaces(), y -> y.hidden(), 0);
    }

    private static void frames() {
        says(25, "FRAMES;");
        due("none", new ShadowSpaces().frames(), 0);
        due("three", some().frames(), 3);
        due("64", Build.fill(Build.calm("00"), 0, 64).frames(), 64);
        says(25, "the ROW: how many SPACES would have of their own,"
            + " were each PAGE that some OBJECT of its CHAIN HOLDS a FRAME for it, all together;");
        Sentence.question("four of two PAGES, one of none", HoldEdges::some, x -> x.frames(), 3, 8, 4);
        Sentence.told("what is hidden counts once for each", hiding(), x -> x.frames(), 8, 6, 3);
        Sentence.told("a CHAIN counts a PAGE once", Build.deepen(Build.calm("0011"), 0, 5), x -> x.frames(), 6, 1, 6);
        ShadowSpaces all = Build.fork(Check.with("000011223344556677"), 0);
        Sentence.told("the most", all, x -> x.frames(), 8, 48, 1);
        says(25, "OBJECTS that are there.");
        Sentence.told("24", Build.deepen(Build.calm("00"), 0, 23), x -> x.frames(), 23, 1, 24);
        Sentence.told("none", new ShadowSpaces(), x -> x.frames(), 0, 0, 0);
    }

    private static void deepest() {
        says(26, "The SPACE with the longest CHAIN (of as long ones the least): it;");
        due("SPACE 1", some().deepest(), 1);
        ShadowSpaces x = some();
        x.ends(1);
        due("the least of two", x.deepest(), 2);
        x.ends(2);
        due("the other one", x.deepest(), 3);
        x.ends(3);
        due("of those of one", x.deepest(), 0);
        x.ends(0);
        due("the last", x.deepest(), 4);
        due("the first of six", Build.fork(Build.calm("00"), 0).deepest(), 0);
        says(26, "the ROW: how long, how many SPACES have one as long.");
        Sentence.question("one", HoldEdges::some, y -> y.deepest(), 1, 3, 1);
        Sentence.told("six", Build.fork(Build.calm("00"), 0), y -> y.deepest(), 0, 1, 6);
        Sentence.told("24", Build.fork(Build.deepen(Build.calm("00", "00"), 1, 22), 1), y -> y.deepest(), 1, 23, 5);
        says(26, "-2: there is no SPACE.");
        Sentence.refused("a new object", ShadowSpaces::new, y -> y.deepest(), -2);
        Sentence.refused("all ended", () -> gone(), y -> y.deepest(), -2);
    }

    private static ShadowSpaces gone() {
        ShadowSpaces x = Check.with("0011");
        x.ends(0);
        return x;
    }

    /** COLLAPSES and a BYPASS, FRAMES that are fewer then. */
    private static ShadowSpaces untidy() {
        ShadowSpaces x = Build.deepen(Build.calm("001122"), 0, 1);
        x.forks(0);
        return Build.deepen(x, 0, 3);
    }

    private static void would() {
        says(27, "What tidies() would do for a SPACE, and change nothing: how many;");
        for (int s = 0; s < 2; s++) {
            int space = s;
            ShadowSpaces did = untidy();
            int done = did.tidies(space);
            Sentence.question("as it does", HoldEdges::untidy, x -> x.would(space), done, did.row(0), did.row(1), did.row(2), did.count(2));
        }
        says(27, "the ROW: as tidies(), then FRAMES then.");
        Sentence.question("two COLLAPSES, a BYPASS", HoldEdges::untidy, x -> x.would(0), 3, 2, 1, 2, 4);
        Sentence.question("nothing", HoldEdges::some, x -> x.would(0), 0, 0, 0, 1, 3);
        Sentence.question("whatever THE RULE is", () -> Build.deepen(Build.calm("00"), 0, 23), x -> x.would(0), 23, 23, 0, 1, 1);
        ShadowSpaces often = untidy();
        for (int i = 0; i < 3; i++) {
            Sentence.told("as often as it is asked", often, x -> x.would(0), 3, 2, 1, 2, 4);
        }
        often.tidies(0);
        Sentence.told("behind tidies()", often, x -> x.would(0), 0, 0, 0, 2, 4);
        says(27, "NONE: none such.");
        for (int wrong : WRONG) {
            Sentence.refused("SPACE " + wrong, HoldEdges::some, x -> x.would(wrong), -1);
        }
        Sentence.refused("one that is not there", HoldEdges::some, x -> x.would(5), -1);
    }

    private static void frees() {
        says(28, "The fewest SPACES that are to end so that an OBJECT is FREED:"
            + " those whose CHAIN has it (there is one always): how many;");
        int[] due = {4, 1, 3, 1};
        int[] left = {0, 2, 2, 3};
        for (int o = 0; o < 4; o++) {
            ShadowSpaces x = some();
            int object = o;
            due("OBJECT " + o, x.frees(o), due[o]);
            for (int s = 0; s < 5; s++) {
                if ((some().holders(o) >> s & 1) == 1) {
                    due("it is there", Sentence.bit(Sentence.throwsNothing(x, y -> y.object(object, 0))), 1);
                    x.ends(s);
                }
            }
            Sentence.none("it is FREED", x, y -> y.object(object, 0));
            due("FRAMES left", x.count(2), left[o]);
        }
        due("six", Build.fork(Build.calm("00"), 0).frees(0), 6);
        says(28, "the ROW: FRAMES that would be left then.");
        for (int o = 0; o < 4; o++) {
            int object = o;
            Sentence.question("OBJECT " + o, HoldEdges::some, x -> x.frees(object), due[o], left[o]);
        }
        Sentence.told("of a deep CHAIN", Build.deepen(Build.calm("0011", "0022"), 0, 5), x -> x.frees(3), 1, 1);
        says(28, "NONE: none such.");
        for (int wrong : new int[] {-1, 4, 23, 24, 25, 32, Integer.MAX_VALUE, Integer.MIN_VALUE}) {
            Sentence.refused("OBJECT " + wrong, HoldEdges::some, x -> x.frees(wrong), -1);
        }
        ShadowSpaces x = some();
        x.ends(4);
        due("one that was FREED", x.frees(3), -1);
    }
}
