/** The sentences of promises 10 to 17: reads, writes, forks, ends, what arrives, what is tidied, days, what is undone. */
final class ActEdges {
    private ActEdges() {
    }

    static void all() {
        reads();
        readsRefused();
        writes();
        writesWithoutFrames();
        writesWithoutObjects();
        writesWrong();
        forks();
        ends();
        arrives();
        tidies();
        dayActs();
        dayDone();
        daySigns();
        undoEach();
        undoWhat();
        undoAll();
    }

    private static void says(int promise, String words) {
        Sentence.says(promise, words);
    }

    private static void due(String what, long got, long due) {
        Sentence.due(what, got, due);
    }

    /** SPACE 0 of a PAGER that answers, which HOLDS PAGE 0; all FRAMES but so many are in SPACE 1's CHAIN. */
    private static ShadowSpaces left(int frames) {
        return Build.fill(Build.calm("1711", "0022"), 1, 64 - frames);
    }

    // ---- reads

    private static void reads() {
        says(10, "A PAGE is FETCHED for a SPACE: its value;");
        ShadowSpaces x = Build.calm("0042..00", "19");
        due("the first PAGE", x.reads(0, 0), 42);
        due("a value of 0", x.reads(0, 2), 0);
        due("of none: 0", x.reads(0, 7), 0);
        due("the last PAGE, of a PAGER", x.reads(1, 7), 97);
        due("HELD from then on", x.object(1, 0), 128);
        due("each is done", x.count(8), 6);
        says(10, "the ROW: the place in its CHAIN where it was HELD"
            + " (0: TOP; as many as there are OBJECTS: by none, it came of a PAGER).");
        ShadowSpaces y = Build.calm("1711", "00");
        y.forks(0);
        y.forks(0);
        Sentence.told("the last of three", y, z -> z.reads(2, 0), 11, 2);
        Sentence.told("by none", y, z -> z.reads(2, 4), 74, 3);
        Sentence.told("it is HELD then", y, z -> z.reads(2, 4), 74, 2);
        Sentence.told("of a CHAIN of one", y, z -> z.reads(0, 4), 74, 0);
        y.writes(3, 4, 5);
        Sentence.told("in the middle", y, z -> z.reads(2, 4), 74, 2);
        y.writes(2, 4, 6);
        Sentence.told("TOP", y, z -> z.reads(2, 4), 6, 0);
        Sentence.told("PAGER 0, of one OBJECT", y, z -> z.reads(1, 4), 0, 1);
        ShadowSpaces deep = Build.deepen(Build.calm("0011"), 0, 23);
        Sentence.told("of 24 OBJECTS by none", deep, z -> z.reads(0, 7), 0, 24);
        ShadowSpaces last = Build.deepen(Build.calm("00..11"), 0, 23);
        Sentence.told("of 24 by the last", last, z -> z.reads(0, 1), 11, 23);
    }

    private static ShadowSpaces late() {
        ShadowSpaces x = Build.calm("20", "3011", "1711");
        x.forks(0);
        x.forks(1);
        return x;
    }

    private static void readsRefused() {
        says(10, "-3: there is none yet (it is AWAITED);");
        ShadowSpaces x = late();
        x.frames();
        Sentence.told("the ROW stays", x, y -> y.reads(0, 7), -3, 3, 5);
        due("AWAITED", x.object(0, 6), 128);
        due("by a CHAIN", x.reads(3, 0) * 1000 + x.object(0, 6), -3000 + 129);
        due("not of the TOP", x.object(3, 6), 0);
        due("both are done", x.count(8), 7);
        x.arrives(0, 7, 9);
        due("it arrives: there is one", x.reads(3, 7), 9);
        due("AWAITED no more", x.object(0, 6), 1);
        says(10, "-4: it is refused;");
        Sentence.refused("by the TOP", ActEdges::late, y -> y.reads(1, 1), -4);
        Sentence.refused("by the last of a CHAIN", ActEdges::late, y -> y.reads(4, 7), -4);
        due("what is HELD is not", late().reads(4, 0), 11);
        says(10, "-5: there is no FRAME left for it (of these -3 alone changes something);");
        Sentence.refused("64 FRAMES", () -> left(0), y -> y.reads(0, 1), -5);
        due("63 FRAMES", left(1).reads(0, 1), 71);
        due("64, but it is HELD", left(0).reads(0, 0), 11);
        ShadowSpaces full = left(0);
        int space = Check.tell(full, "00").spaces();
        Sentence.told("64, PAGER 0", full, y -> y.reads(space, 3), 0, 1);
        int awaits = Check.tell(full, "20").spaces();
        due("64, late", full.reads(awaits, 3), -3);
        int refuses = Check.tell(full, "30").spaces();
        due("64, refused", full.reads(refuses, 3), -4);
        says(10, "NONE: others.");
        for (int wrong : new int[] {-1, 5, 6, 32, Integer.MAX_VALUE, Integer.MIN_VALUE}) {
            Sentence.refused("SPACE " + wrong, ActEdges::late, y -> y.reads(wrong, 0), -1);
        }
        for (int wrong : new int[] {-1, 8, 31, 32, 33, Integer.MAX_VALUE, Integer.MIN_VALUE}) {
            Sentence.refused("PAGE " + wrong, ActEdges::late, y -> y.reads(0, wrong), -1);
            Sentence.refused("PAGE " + wrong, ActEdges::late, y -> y.reads(1, wrong), -1);
            Sentence.refused("PAGE " + wrong, ActEdges::late, y -> y.reads(2, wrong), -1);
        }
        Sentence.refused("one that ended", () -> ended(), y -> y.reads(0, 0), -1);
    }

    private static ShadowSpaces ended() {
        ShadowSpaces x = Check.with("0011", "0022");
        x.ends(0);
        return x;
    }

    // ---- writes

    private static void writes() {
        says(11, "A WRITE of a PAGE, v (0 .. 99), in a SPACE: OBJECTS of its CHAIN then;");
        ShadowSpaces x = Build.calm("0011");
        due("one", x.writes(0, 0, 0), 1);
        due("0", x.page(0, 0), 0);
        due("the last PAGE", x.writes(0, 7, 99), 1);
        due("99", x.page(0, 7), 99);
        x.forks(0);
        due("one came", x.writes(0, 0, 5), 2);
        due("24", Build.deepen(Build.calm("00"), 0, 23).writes(0, 0, 1), 24);
        ShadowSpaces tidied = Build.deepen(Build.calm("00"), 0, 5);
        Check.rule(tidied, "1");
        due("TIDIED", tidied.writes(0, 1, 1), 1);
        says(11, "the ROW: FRAMES then, OBJECTS that are there then.");
        Sentence.told("a FRAME more", x, y -> y.writes(0, 1, 5), 2, 4, 2);
        Sentence.told("none more", x, y -> y.writes(0, 1, 6), 2, 4, 2);
        Sentence.told("an OBJECT more", x, y -> y.writes(1, 1, 6), 2, 5, 3);
        ShadowSpaces fewer = Build.deepen(Build.calm("0011"), 0, 5);
        Check.rule(fewer, "1");
        Sentence.told("behind the tidying", fewer, y -> y.writes(0, 1, 1), 1, 2, 1);
        ShadowSpaces pushed = Build.calm("17");
        pushed.forks(0);
        Sentence.told("FETCHED and pushed", pushed, y -> y.writes(0, 1, 1), 1, 2, 2);
    }

    private static void writesWithoutFrames() {
        says(11, "-3, -4, -5 (as reads(); also, if there is none left for (1), (3) or (4) together: then nothing changes);");
        ShadowSpaces x = late();
        x.frames();
        Sentence.told("-3, the ROW stays", x, y -> y.writes(0, 7, 1), -3, 3, 5);
        due("-3 of a CHAIN", x.writes(3, 0, 1), -3);
        due("AWAITED", x.object(0, 6), 129);
        due("both can be undone", x.count(8), 7);
        due("nothing else changes", x.count(1) * 100 + x.count(3) * 10 + x.space(3, 1), 3101);
        Sentence.refused("-4", ActEdges::late, y -> y.writes(1, 1, 1), -4);
        Sentence.refused("-4 of a CHAIN", ActEdges::late, y -> y.writes(4, 7, 1), -4);
        Sentence.refused("(1), HELD by the TOP then", () -> left(0), y -> y.writes(0, 1, 1), -5);
        due("one is left", left(1).writes(0, 1, 1), 1);
        Sentence.refused("(4)", () -> left(0), y -> y.writes(1, 7, 1), -5);
        due("one is left", left(1).writes(1, 7, 1) > 0 ? 1 : 0, 1);
        due("HELD: it needs none", left(0).writes(0, 0, 1), 1);
        Sentence.refused("(1) and (3)", () -> copied(1), y -> y.writes(0, 1, 1), -5);
        Sentence.refused("(1) and (3)", () -> copied(0), y -> y.writes(0, 1, 1), -5);
        due("two are left", copied(2).writes(0, 1, 1), 1);
        Sentence.refused("(3)", () -> copied(0), y -> y.writes(0, 0, 1), -5);
        due("one is left", copied(1).writes(0, 0, 1), 1);
        Sentence.refused("(1) and (4)", () -> copied(1), y -> y.writes(y.count(9), 1, 1), -5);
        due("two are left", copied(2).writes(2, 1, 1), 2);
        Sentence.refused("(4) of what the SHADOW HOLDS", () -> copied(0), y -> y.writes(2, 0, 1), -5);
        due("one is left", copied(1).writes(2, 0, 1), 2);
        Sentence.refused("(4) of the OBJECT that comes", () -> shared(0), y -> y.writes(2, 0, 1), -5);
        due("one is left", shared(1).writes(2, 0, 1) > 0 ? 1 : 0, 1);
        Sentence.refused("though a tidying would make room", () -> ruled(left(0), "1"), y -> y.writes(1, 7, 1), -5);
        due("64 behind it", filled(left(1)), 64);
        due("-3, though no FRAME is left", lateIn(left(0)), -3);
    }

    private static int filled(ShadowSpaces x) {
        x.writes(0, 1, 1);
        return x.count(2);
    }

    private static int lateIn(ShadowSpaces x) {
        return x.writes(Check.tell(x, "20").spaces(), 0, 1);
    }

    private static ShadowSpaces ruled(ShadowSpaces x, String rule) {
        Check.rule(x, rule);
        return x;
    }

    /** As left(), but SPACE 2 has a COPY of SPACE 0's OBJECT. */
    private static ShadowSpaces copied(int frames) {
        ShadowSpaces x = Build.calm("1711", "0022");
        x.forks(0);
        return Build.fill(x, 1, 64 - frames);
    }

    /** As left(), but SPACE 2 has the TOP of SPACE 1. */
    private static ShadowSpaces shared(int frames) {
        ShadowSpaces x = left(frames);
        x.forks(1);
        return x;
    }

    /** 24 OBJECTS; SPACES 3, 4 are forks of a late and of a refusing one, SPACE 5 is one of another SPACE. */
    private static ShadowSpaces packed(int forked, int frames) {
        ShadowSpaces x = Build.crowd(Build.calm("0011", "20", "30"), 0, 22, frames);
        x.forks(1);
        x.forks(2);
        x.forks(forked);
        return x;
    }

    private static void writesWithoutObjects() {
        says(11, "-6: no OBJECT more can come, though one has to (asked behind -3, -4, ahead of -5);");
        due("24 OBJECTS, 6 SPACES", Integer.bitCount(packed(0, 40).count(1)) * 100 + packed(0, 40).count(0), 2463);
        Sentence.refused("one has to", () -> packed(0, 40), x -> x.writes(5, 3, 1), -6);
        Sentence.refused("though the TOP HOLDS it", () -> packed(0, 40), x -> x.writes(0, 0, 1), -6);
        Sentence.refused("ahead of -5", () -> packed(0, 64), x -> x.writes(5, 3, 1), -6);
        Sentence.refused("behind -4", () -> packed(4, 40), x -> x.writes(5, 3, 1), -4);
        ShadowSpaces x = packed(3, 40);
        due("behind -3", x.writes(5, 3, 1), -3);
        due("AWAITED", x.count(5), 1);
        due("none has to", packed(4, 40).writes(0, 0, 1), 20);
        ShadowSpaces only = packed(0, 40);
        only.ends(5);
        due("the only HOLDER", only.writes(0, 0, 1), 20);
        ShadowSpaces one = Build.crowd(Build.calm("0011"), 0, 23, 40);
        one.forks(0);
        due("one can", one.writes(1, 0, 1), 24);
        one.forks(1);
        due("none can then", one.writes(1, 0, 1), -6);
    }

    private static void writesWrong() {
        says(11, "NONE: others.");
        for (int wrong : new int[] {-1, 5, 6, 32, Integer.MAX_VALUE, Integer.MIN_VALUE}) {
            Sentence.refused("SPACE " + wrong, ActEdges::late, y -> y.writes(wrong, 0, 1), -1);
        }
        for (int wrong : new int[] {-1, 8, 32, Integer.MAX_VALUE, Integer.MIN_VALUE}) {
            Sentence.refused("PAGE " + wrong, ActEdges::late, y -> y.writes(2, wrong, 1), -1);
            Sentence.refused("PAGE " + wrong, ActEdges::late, y -> y.writes(0, wrong, 1), -1);
        }
        for (int wrong : new int[] {-1, 100, Integer.MAX_VALUE, Integer.MIN_VALUE}) {
            Sentence.refused("value " + wrong, ActEdges::late, y -> y.writes(2, 0, wrong), -1);
            Sentence.refused("value " + wrong + ", late", ActEdges::late, y -> y.writes(0, 0, wrong), -1);
            Sentence.refused("value " + wrong + ", refused", ActEdges::late, y -> y.writes(1, 1, wrong), -1);
        }
        Sentence.refused("one that ended", () -> ended(), y -> y.writes(0, 0, 1), -1);
    }

    // ---- forks, ends, arrives, tidies

    private static void forks() {
        says(12, "A FORK of a SPACE: the number of the one that comes.");
        ShadowSpaces x = Build.calm("0011", "10");
        due("behind those that are there", x.forks(0), 2);
        due("of a PAGER", x.forks(1), 3);
        x.ends(0);
        due("the least that is not there", x.forks(2), 0);
        due("SPACE 4", x.forks(2), 4);
        due("SPACE 5", x.forks(1), 5);
        due("done", x.count(8), 8);
        says(12, "-2: there are 6;");
        Sentence.refused("of PAGER 0", () -> Build.fork(Build.calm("0011", "10"), 0), y -> y.forks(0), -2);
        Sentence.refused("of PAGER 1", () -> Build.fork(Build.calm("0011", "10"), 0), y -> y.forks(1), -2);
        says(12, "-6: no OBJECT more can come, though one has to;");
        Sentence.refused("24 OBJECTS", () -> Build.crowd(Build.calm("0011", "10"), 0, 24, 30), y -> y.forks(1), -6);
        due("none has to", Build.crowd(Build.calm("0011", "10"), 0, 24, 30).forks(0), 2);
        due("23 OBJECTS", Build.crowd(Build.calm("0011", "10"), 0, 23, 30).forks(1), 2);
        ShadowSpaces copy = Build.calm("0011", "10");
        copy.forks(1);
        Build.crowd(copy, 0, 24, 30);
        due("of a COPY none has to", copy.forks(2), 3);
        says(12, "NONE: none such.");
        for (int wrong : new int[] {-1, 2, 5, 6, 32, Integer.MAX_VALUE, Integer.MIN_VALUE}) {
            Sentence.refused("SPACE " + wrong, () -> Build.calm("0011", "10"), y -> y.forks(wrong), -1);
        }
        Sentence.refused("ahead of -2", () -> Build.fork(Build.calm("0011"), 0), y -> y.forks(6), -1);
        Sentence.refused("one that ended", () -> ended(), y -> y.forks(0), -1);
    }

    private static void ends() {
        says(13, "A SPACE ends: it is there no more: how many OBJECTS are FREED.");
        ShadowSpaces x = Build.calm("0011", "0022");
        x.forks(0);
        due("none", x.ends(0), 0);
        due("it is there no more", x.count(0), 6);
        Sentence.none("it is there no more", x, y -> y.space(0, 0));
        due("one", x.ends(2), 1);
        due("no OBJECT, no FRAME of it", x.count(1) * 10 + x.count(2), 21);
        due("a CHAIN", Build.deepen(Build.calm("0011"), 0, 23).ends(0), 24);
        due("the last", x.ends(1) * 10 + x.count(0), 10);
        due("none SHARES", x.count(4), 0);
        due("SPACE 0 told anew", Check.tell(x, "00").spaces(), 0);
        due("does not SHARE", x.space(0, 1), 0);
        ShadowSpaces y = Build.calm("10");
        y.forks(0);
        y.forks(0);
        due("who is SHADOW of a COPY stays", y.ends(0), 0);
        due("a COPY that another one has as SHADOW stays", y.ends(2), 0);
        due("all three", y.ends(1), 3);
        ShadowSpaces z = Build.deepen(Build.calm("0011"), 0, 3);
        z.forks(0);
        z.writes(0, 0, 1);
        due("the TOP alone", z.ends(0), 1);
        due("the others", z.ends(1), 4);
        says(13, "NONE: none such.");
        for (int wrong : new int[] {-1, 2, 5, 6, 32, Integer.MAX_VALUE, Integer.MIN_VALUE}) {
            Sentence.refused("SPACE " + wrong, () -> Build.calm("0011", "10"), w -> w.ends(wrong), -1);
        }
        Sentence.refused("one that ended", () -> ended(), w -> w.ends(0), -1);
    }

    private static ShadowSpaces awaited() {
        ShadowSpaces x = Build.calm("20", "2011", "1711");
        x.reads(0, 0);
        x.reads(0, 3);
        x.reads(0, 7);
        return x;
    }

    private static void arrives() {
        says(14, "A PAGE that is AWAITED of an OBJECT arrives, v (0 .. 99): it is HELD, AWAITED no more:"
            + " how many are still AWAITED of that OBJECT.");
        ShadowSpaces x = awaited();
        x.reads(1, 5);
        due("two", x.arrives(0, 3, 0), 2);
        due("HELD", x.object(0, 0) * 100 + x.page(0, 3), 800);
        due("AWAITED no more", x.object(0, 6), 129);
        due("one", x.arrives(0, 7, 99), 1);
        due("HELD", x.page(0, 7), 99);
        due("none", x.arrives(0, 0, 5), 0);
        due("the other OBJECT's stay", x.object(1, 6), 32);
        due("done", x.count(8), 8);
        says(14, "-2: it is not AWAITED;");
        Sentence.refused("it never was", ActEdges::awaited, y -> y.arrives(0, 1, 5), -2);
        Sentence.refused("of that OBJECT", ActEdges::awaited, y -> y.arrives(1, 3, 5), -2);
        Sentence.refused("HELD", ActEdges::awaited, y -> y.arrives(1, 0, 5), -2);
        Sentence.refused("another PAGER", ActEdges::awaited, y -> y.arrives(2, 3, 5), -2);
        due("it arrived", x.arrives(0, 3, 5), -2);
        says(14, "-5: there is no FRAME left (nothing changes);");
        Sentence.refused("64 FRAMES", () -> full(64), y -> y.arrives(0, 0, 5), -5);
        due("63 FRAMES", full(63).arrives(0, 0, 5), 0);
        Sentence.refused("64 FRAMES, not AWAITED", () -> full(64), y -> y.arrives(0, 1, 5), -2);
        says(14, "NONE: others.");
        for (int wrong : new int[] {-1, 3, 23, 24, 32, Integer.MAX_VALUE, Integer.MIN_VALUE}) {
            Sentence.refused("OBJECT " + wrong, ActEdges::awaited, y -> y.arrives(wrong, 3, 5), -1);
        }
        for (int wrong : new int[] {-1, 8, 32, 35, Integer.MAX_VALUE, Integer.MIN_VALUE}) {
            Sentence.refused("PAGE " + wrong, ActEdges::awaited, y -> y.arrives(0, wrong, 5), -1);
        }
        for (int wrong : new int[] {-1, 100, Integer.MAX_VALUE, Integer.MIN_VALUE}) {
            Sentence.refused("value " + wrong, ActEdges::awaited, y -> y.arrives(0, 3, wrong), -1);
            Sentence.refused("ahead of -2", ActEdges::awaited, y -> y.arrives(0, 1, wrong), -1);
            Sentence.refused("ahead of -5", () -> full(64), y -> y.arrives(0, 0, wrong), -1);
        }
        ShadowSpaces gone = awaited();
        gone.ends(0);
        due("FREED", gone.arrives(0, 3, 5), -1);
    }

    private static ShadowSpaces full(int frames) {
        ShadowSpaces x = Build.calm("20", "0022");
        Build.fill(x, 1, frames);
        x.reads(0, 0);
        return x;
    }

    private static void tidies() {
        says(15, "THE CHAIN of a SPACE is TIDIED: how many COLLAPSES and BYPASSES;");
        due("none", Build.calm("00").tidies(0), 0);
        due("of none it is done, too", Sentence.bit(Build.calm("00").tidies(0) == 0), 1);
        due("23 COLLAPSES", Build.deepen(Build.calm("00"), 0, 23).tidies(0), 23);
        due("both", mixed().tidies(0), 2);
        due("whatever THE RULE is", ruled(Build.deepen(Build.calm("00"), 0, 2), "0").tidies(0), 2);
        ShadowSpaces twice = mixed();
        due("the first time", twice.tidies(0), 2);
        due("the second time: what it does then", twice.tidies(0), 0);
        due("of the other SPACE", twice.tidies(1), 0);
        says(15, "the ROW: COLLAPSES, BYPASSES, OBJECTS of its CHAIN then.");
        Sentence.told("behind others", twice, x -> x.tidies(0), 0, 0, 0, 2);
        Sentence.told("both", mixed(), x -> x.tidies(0), 2, 1, 1, 2);
        Sentence.told("none", Build.calm("10"), x -> x.tidies(0), 0, 0, 0, 1);
        ShadowSpaces late = late();
        Sentence.told("what has a PAGER stays", late, x -> x.tidies(3), 0, 0, 0, 2);
        due("it is done", late.count(8), 6);
        says(15, "NONE: none such.");
        for (int wrong : new int[] {-1, 5, 6, 32, Integer.MAX_VALUE, Integer.MIN_VALUE}) {
            Sentence.refused("SPACE " + wrong, ActEdges::late, x -> x.tidies(wrong), -1);
        }
        Sentence.refused("one that ended", () -> ended(), x -> x.tidies(0), -1);
    }

    /** A COLLAPSE, then a BYPASS of what another SPACE has, then one that HOLDS a PAGE more. */
    private static ShadowSpaces mixed() {
        ShadowSpaces x = Build.deepen(Build.calm("001122"), 0, 1);
        x.forks(0);
        Build.deepen(x, 0, 2);
        return x;
    }

    // ---- day

    private static void dayActs() {
        says(16, "THE TEXT tells A DAY (an empty one: no ACTS), ACTS one behind another, without signs between:");
        Sentence.question("an empty one", ActEdges::late, x -> x.day(), 0, 0, 2);
        ShadowSpaces x = Build.calm("0011", "20", "30");
        Sentence.told("two ACTS", x, y -> Check.tell(y, "f0f0").day(), 2, 0, 1);
        due("SPACES", x.count(0), 31);
        for (String between : new String[] {" ", ",", ";", "\n", "\0", "-"}) {
            Sentence.refused("a sign between", ActEdges::late, "e0" + between + "e1", y -> y.day(), -3);
        }
        says(16, "r, a digit and a digit 0 .. 7 (reads()),");
        act("r07", y -> y.reads(0, 7), 1);
        act("r23", y -> y.reads(2, 3), 1);
        act("r40", y -> y.reads(4, 0), 1);
        act("r90", y -> y.reads(9, 0), 0);
        act("r13", y -> y.reads(1, 3), 0);
        says(16, "w, a digit, a digit 0 .. 7 and two digits (writes()),");
        act("w0742", y -> y.writes(0, 7, 42), 1);
        act("w2007", y -> y.writes(2, 0, 7), 1);
        act("w2099", y -> y.writes(2, 0, 99), 1);
        act("w9000", y -> y.writes(9, 0, 0), 0);
        act("w1312", y -> y.writes(1, 3, 12), 0);
        says(16, "f and a digit (forks()),");
        act("f0", y -> y.forks(0), 1);
        act("f2", y -> y.forks(2), 1);
        act("f9", y -> y.forks(9), 0);
        says(16, "e and a digit (ends()),");
        act("e4", y -> y.ends(4), 1);
        act("e9", y -> y.ends(9), 0);
        says(16, "t and a digit (tidies()),");
        act("t0", y -> y.tidies(0), 1);
        act("t6", y -> y.tidies(6), 0);
        says(16, "a, two digits, a digit 0 .. 7 and two digits (arrives()):");
        act("a01599", y -> y.arrives(1, 5, 99), 1);
        act("a01500", y -> y.arrives(1, 5, 0), 1);
        act("a01412", y -> y.arrives(1, 4, 12), 0);
        act("a10512", y -> y.arrives(10, 5, 12), 0);
        act("a23512", y -> y.arrives(23, 5, 12), 0);
        act("a24512", y -> y.arrives(24, 5, 12), 0);
        act("a99799", y -> y.arrives(99, 7, 99), 0);
        ShadowSpaces deep = Build.crowd(Build.calm("0011"), 0, 23, 23);
        Check.tell(deep, "20").spaces();
        deep.reads(1, 6);
        due("an OBJECT of two digits", Check.tell(deep, "a23655").day() * 100 + deep.page(23, 6), 155);
    }

    /** SPACE 0, CHAIN of 3; SPACE 1 late, PAGE 5 is AWAITED; SPACE 2 of a PAGER that answers; SPACE 3 refuses; SPACE 4 a COPY. */
    private static ShadowSpaces lively() {
        ShadowSpaces x = Build.deepen(Build.calm("0011", "20", "1711", "30"), 0, 2);
        x.forks(2);
        x.reads(1, 5);
        return x;
    }

    /** An ACT leaves all as the call does, and is done if that answers 0 or more. */
    private static void act(String text, Sentence.Call call, int done) {
        ShadowSpaces one = lively();
        ShadowSpaces other = lively();
        due(text + " is done", Check.tell(one, text).day(), done);
        due(text + " can be", Sentence.bit(call.of(other) >= 0), done);
        Sentence.due(text + " leaves what the call does", Sentence.picture(one, false, false), Sentence.picture(other, false, false));
        Sentence.row(text, one, 1 - done, other.count(2));
    }

    private static void dayDone() {
        says(16, "they are done one by one, till one can't be (it answers below 0): how many were done;");
        ShadowSpaces x = lively();
        due("all", Check.tell(x, "w0111w0222w0333").day(), 3);
        due("each", x.peeks(0, 1) * 10000 + x.peeks(0, 2) * 100 + x.peeks(0, 3), 112233);
        due("NONE", Check.tell(x, "w0144f9w0155").day(), 1);
        due("those behind it are not done", x.peeks(0, 1), 44);
        due("-2", Check.tell(x, "w0145a01455w0155").day(), 1);
        due("-3", Check.tell(x, "w0146r17w0155").day(), 1);
        due("-3 makes it AWAITED", x.object(1, 6), 128 + 32);
        due("-4", Check.tell(x, "w0147w3012w0155").day(), 1);
        due("0 is done", Check.tell(x, "r07e4f0e4").day(), 4);
        due("an ACT on what one ahead of it made", Check.tell(x, "f0w4122e4").day(), 3);
        due("-5", Check.tell(left(0), "r00r01r00").day(), 1);
        due("-6", Check.tell(packed(0, 40), "r00w0011r00").day(), 1);
        due("the first can't be", Check.tell(x, "f9w0155").day(), 0);
        due("one that ended", Check.tell(x, "e0r00").day(), 1);
        says(16, "the ROW: 1 if one could not be, else 0; FRAMES then.");
        ShadowSpaces y = Build.calm("0011");
        Sentence.told("all could", y, z -> Check.tell(z, "w0122").day(), 1, 0, 2);
        Sentence.told("the second could not", y, z -> Check.tell(z, "w0222f9").day(), 1, 1, 3);
        Sentence.told("the first could not", y, z -> Check.tell(z, "f9w0322").day(), 0, 1, 3);
        Sentence.told("the last of many could not", y, z -> Check.tell(z, "r00r00r00r00e5").day(), 4, 1, 3);
        Sentence.told("none", y, z -> Check.tell(z, "").day(), 0, 0, 3);
        Sentence.told("none is left", y, z -> Check.tell(z, "e0").day(), 1, 0, 0);
    }

    private static void daySigns() {
        says(16, "-1 - p: the sign at p can't stand there");
        String full = "w0742a01599r07f1e1t2w0742a01599r07f1e1t2a01599a01599w0742";
        String sixty = full + "r00";
        for (int at = 0; at < sixty.length(); at++) {
            for (int sign = 0; sign < 128; sign++) {
                String changed = sixty.substring(0, at) + (char) (sign < 127 ? sign : 178) + sixty.substring(at + 1);
                int wrong = Model.wrongSign(Model.DAY, changed, 60);
                if (wrong >= 0) {
                    due(changed, Check.tell(Build.calm("00"), changed).day(), -1 - wrong);
                }
            }
        }
        says(16, "(its end, if it ends too early;");
        String[] early = {"r", "r0", "w", "w0", "w07", "w074", "f", "e", "t", "a", "a0", "a01", "a015", "a0159", "f0r", "f0w074"};
        for (String text : early) {
            Sentence.refused(text, ActEdges::lively, text, x -> x.day(), -1 - text.length());
        }
        due("60 signs that go on: the end", Check.tell(lively(), full + "w07").day(), -61);
        due("60 signs that end", Sentence.bit(Check.tell(lively(), full + "r00").day() >= 0), 1);
        due("59 signs that go on", Check.tell(lively(), full + "r0").day(), -60);
        says(16, "60, if it has more and the first 60 could go on or end);");
        for (String behind : new String[] {"f", "0", "x", "\0", "f0", "z".repeat(20)}) {
            Sentence.refused("could end", ActEdges::lively, full + "r00" + behind, x -> x.day(), -61);
            Sentence.refused("could go on", ActEdges::lively, full + "w07" + behind, x -> x.day(), -61);
        }
        Sentence.refused("could not", ActEdges::lively, full + "r08f0", x -> x.day(), -60);
        Sentence.refused("could not", ActEdges::lively, "x" + full + "r00", x -> x.day(), -1);
        says(16, "nothing is done then.");
        Sentence.refused("though the first ACTS could be", ActEdges::lively, "w0111f0e0x", x -> x.day(), -10);
        Sentence.refused("nor AWAITED", ActEdges::lively, "r10r1", x -> x.day(), -6);
    }

    // ---- undo

    /** All that undo() brings back. */
    private static String all(ShadowSpaces x) {
        return Sentence.picture(x, false, false).replaceAll("count 8.*\n", "");
    }

    /** The call can be undone, and all is as ahead of it. */
    private static void undone(String what, Sentence.Made made, Sentence.Call call) {
        ShadowSpaces x = made.make();
        int before = x.count(8);
        call.of(x);
        due(what + " can be undone", x.count(8), Math.min(8, before + 1));
        due(what + ", how many are left", x.undo(), Math.min(7, before));
        Sentence.due(what + ", as ahead of it", all(x), all(made.make()));
    }

    private static void undoEach() {
        says(17, "The latest spaces(), reads(), writes(), forks(), ends(), arrives(), tidies(), day()");
        Sentence.Made made = ActEdges::briefly;
        undone("spaces", made, x -> Check.tell(x, "1799").spaces());
        undone("reads", made, x -> x.reads(2, 5));
        undone("reads of what is HELD", made, x -> x.reads(0, 0));
        undone("writes", made, x -> x.writes(0, 5, 9));
        undone("writes that bring an OBJECT", made, x -> x.writes(4, 5, 9));
        undone("forks", made, x -> x.forks(0));
        undone("forks of a PAGER", made, x -> x.forks(2));
        undone("ends", made, x -> x.ends(0));
        undone("ends of a COPY", made, x -> x.ends(3));
        undone("arrives", made, x -> x.arrives(1, 5, 9));
        undone("tidies", made, x -> x.tidies(0));
        undone("tidies that finds nothing", made, x -> x.tidies(1));
        undone("day", made, x -> Check.tell(x, "w0144f2e0t3").day());
    }

    /** SPACE 0 SHARES with SPACE 4; SPACE 1 late, PAGE 5 AWAITED; SPACE 2 with a COPY, SPACE 3. Six can be undone. */
    private static ShadowSpaces briefly() {
        ShadowSpaces x = Check.with("001122", "20", "1711");
        x.forks(2);
        x.forks(0);
        x.reads(1, 5);
        return x;
    }

    private static void undoWhat() {
        says(17, "(of 8 that are kept, the latest ones;");
        ShadowSpaces x = Check.with("00");
        for (int v = 1; v <= 20; v++) {
            x.writes(0, 0, v);
            due("at most 8", x.count(8), Math.min(8, v + 1));
        }
        for (int v = 19; v >= 12; v--) {
            due("the latest one first", x.undo() * 100 + x.page(0, 0), (v - 12) * 100 + v);
        }
        due("none of those ahead", x.undo() * 100 + x.page(0, 0), -100 + 12);
        says(17, "such as were done,");
        Sentence.Made made = ActEdges::briefly;
        for (Sentence.Call call : new Sentence.Call[] {y -> Check.tell(y, "x").spaces(), y -> y.reads(5, 0), y -> y.writes(0, 0, 100),
            y -> y.forks(5), y -> y.ends(5), y -> y.arrives(1, 4, 0), y -> y.tidies(5), y -> Check.tell(y, "x").day(),
            y -> Check.tell(y, "f9").day(), y -> Check.tell(y, "").day()}) {
            ShadowSpaces y = made.make();
            call.of(y);
            due("what was not", y.count(8), 6);
        }
        ShadowSpaces refuses = Check.with("30");
        due("-4", refuses.reads(0, 0) + refuses.writes(0, 0, 0) + refuses.count(8), -7);
        for (Sentence.Call call : new Sentence.Call[] {y -> Check.tell(y, "1").rule(), y -> y.sheet(2, 3, 1, 1), y -> Sentence.bit(y.keep(0)),
            y -> y.storm(0, 1), y -> y.sweep(0, 1), y -> y.would(0), y -> y.years(1, 9), y -> y.heard(0, 0), y -> y.saw(0, 0, 0),
            y -> Check.tell(y, "1").law(), y -> y.sign(0)}) {
            ShadowSpaces y = made.make();
            due("another call is done", Sentence.bit(call.of(y) != -1), 1);
            due("another call", y.count(8), 6);
        }
        says(17, "also reads() and writes() that answered -3,");
        undone("reads", made, y -> y.reads(1, 6));
        undone("writes", made, y -> y.writes(1, 6, 1));
        undone("reads of what is AWAITED", made, y -> y.reads(1, 5));
        undone("writes of what is AWAITED", made, y -> y.writes(1, 5, 1));
        says(17, "and, as one, a day() of which one ACT was done,");
        undone("many", made, y -> Check.tell(y, "w0011w0122w0233f0e1").day());
        undone("one, the second can't be", made, y -> Check.tell(y, "w0011f9").day());
        undone("one, the second is late", made, y -> Check.tell(y, "r00r16").day());
        says(17, "or the first of which made a PAGE AWAITED that was not)");
        undone("reads", made, y -> Check.tell(y, "r16f0").day());
        undone("writes", made, y -> Check.tell(y, "w1644f0").day());
        for (String text : new String[] {"r15", "w1544", "f9r16", "a01411r16"}) {
            ShadowSpaces y = made.make();
            due(text + " does nothing", Check.tell(y, text).day(), 0);
            due(text + " is not kept", y.count(8), 6);
        }
    }

    private static void undoAll() {
        says(17, "is undone (all of SPACES, OBJECTS, WRITES are as ahead of it): how many are left that can be.");
        ShadowSpaces x = Build.calm("1711");
        Sentence.Call[] calls = {y -> y.forks(0), y -> y.writes(0, 0, 5), y -> y.forks(0), y -> y.writes(1, 3, 7), y -> y.ends(2),
            y -> y.tidies(1), y -> y.ends(0)};
        for (Sentence.Call call : calls) {
            call.of(x);
        }
        for (int i = calls.length - 1; i >= 0; i--) {
            due("how many are left", x.undo(), i + 1);
            ShadowSpaces ahead = Build.calm("1711");
            for (int j = 0; j < i; j++) {
                calls[j].of(ahead);
            }
            Sentence.due("one by one", all(x), all(ahead));
        }
        x.undo();
        due("no SPACES", x.count(0) + x.count(1) + x.count(2), 0);
        ShadowSpaces deep = Build.crowd(Build.calm("00"), 0, 24, 60);
        deep.writes(0, 7, 77);
        deep.writes(0, 7, 78);
        deep.undo();
        due("the last value of the last OBJECT", deep.page(23, 7), 77);
        deep.undo();
        Sentence.none("HELD no more", deep, z -> z.page(23, 7));
        ShadowSpaces y = briefly();
        y.heard(0, 0);
        y.saw(0, 0, 0);
        y.sign(0);
        Check.rule(y, "42");
        y.sign(0);
        y.frames();
        y.undo();
        due("all else stays", y.count(6) * 1000 + y.count(7) * 100 + y.count(10) * 10 + y.count(9), 1142);
        due("THE RULE stays", y.space(0, 3), 142);
        says(17, "Refused: none.");
        Sentence.refused("a new object", ShadowSpaces::new, z -> z.undo(), -1);
        Sentence.refused("all were undone", () -> nothingLeft(), z -> z.undo(), -1);
        says(17, "(again() forgets them, if it is not refused.)");
        ShadowSpaces z = briefly();
        due("refused", Sentence.bit(z.again(0)) + Sentence.bit(z.again(2)) + Sentence.bit(z.again(-1)), 0);
        due("they are there", z.count(8), 6);
        z.keep(0);
        due("keep() leaves them", z.count(8), 6);
        z.again(0);
        due("forgotten", z.count(8), 0);
        due("none", z.undo(), -1);
        z.forks(0);
        due("one more", z.undo(), 0);
    }

    private static ShadowSpaces nothingLeft() {
        ShadowSpaces x = Check.with("0011", "0022");
        x.undo();
        x.undo();
        return x;
    }
}
