/** The sentences of promises 44 to 47: what is kept, what can be counted, the ROW. */
final class KeptEdges {
    private KeptEdges() {
    }

    static void all() {
        keep();
        again();
        count();
        row();
    }

    private static void says(int promise, String words) {
        Sentence.says(promise, words);
    }

    private static void due(String what, long got, long due) {
        Sentence.due(what, got, due);
    }

    private static ShadowSpaces some() {
        ShadowSpaces x = Build.calm("171122", "0033", "20");
        x.forks(0);
        x.forks(1);
        x.writes(0, 0, 5);
        x.writes(4, 1, 6);
        x.reads(2, 3);
        x.heard(0, 0);
        x.saw(0, 0, 0);
        x.sign(0x30303030);
        return x;
    }

    private static String state(ShadowSpaces x) {
        return Sentence.picture(x, false, false).replaceAll("count 8.*\n", "");
    }

    private static void change(ShadowSpaces x) {
        x.ends(0);
        x.ends(1);
        x.writes(3, 7, 9);
        x.forks(3);
        x.arrives(2, 3, 4);
        x.sheet(2, 24, 3, 1);
    }

    private static void keep() {
        says(44, "What undo() brings back is kept under a number 0 .. 1: true.");
        for (int i = 0; i <= 1; i++) {
            ShadowSpaces x = some();
            String before = state(x);
            due("kept", Sentence.bit(x.keep(i)), 1);
            Sentence.due("nothing changes", state(x), before);
            due("what can be undone stays", x.count(8), 8);
            change(x);
            due("again", Sentence.bit(x.again(i)), 1);
            Sentence.due("SPACES, OBJECTS, WRITES, DIGITS are as they were", state(x), before);
        }
        ShadowSpaces x = some();
        x.keep(0);
        x.ends(3);
        String later = state(x);
        x.keep(0);
        change(x);
        x.again(0);
        Sentence.due("kept anew: the latest one", state(x), later);
        ShadowSpaces two = some();
        String first = state(two);
        two.keep(0);
        two.ends(3);
        String second = state(two);
        two.keep(1);
        two.again(0);
        Sentence.due("each under its number", state(two), first);
        two.again(1);
        Sentence.due("each under its number", state(two), second);
        ShadowSpaces none = new ShadowSpaces();
        none.keep(1);
        Check.tell(none, "0011").spaces();
        none.again(1);
        due("no SPACES", none.count(0) + none.count(1) + none.count(2), 0);
        says(44, "Refused: others.");
        for (int wrong : new int[] {-1, 2, 3, 32, Integer.MAX_VALUE, Integer.MIN_VALUE}) {
            Sentence.refused("" + wrong, KeptEdges::some, y -> Sentence.bit(y.keep(wrong)), 0);
            ShadowSpaces y = some();
            y.keep(wrong);
            due("nothing is kept by it", Sentence.bit(y.again(0)) + Sentence.bit(y.again(1)), 0);
        }
    }

    private static void again() {
        says(45, "It is as it was kept under a number.");
        ShadowSpaces x = some();
        String before = state(x);
        x.keep(1);
        for (int i = 0; i < 3; i++) {
            change(x);
            due("again and again", Sentence.bit(x.again(1)), 1);
            Sentence.due("as it was", state(x), before);
            due("nothing can be undone", x.count(8), 0);
        }
        Check.rule(x, "42");
        x.heard(1, 1);
        x.saw(1, 1, 1);
        x.sign(0);
        x.frames();
        x.again(1);
        due("what undo() brings not back stays", x.count(6) * 1000 + x.count(7) * 100 + x.count(10) * 10 + x.count(9), 2242);
        due("THE RULE, too", x.space(0, 3), 142);
        x.writes(0, 0, 77);
        x.again(1);
        due("what is done then is not done to what is kept", x.page(0, 0), 5);
        String then = state(x);
        x.ends(3);
        x.undo();
        Sentence.due("undo() goes back to it", state(x), then);
        due("no farther", x.undo(), -1);
        says(45, "Refused: nothing kept.");
        for (int wrong : new int[] {0, 1, -1, 2, 3, Integer.MAX_VALUE, Integer.MIN_VALUE}) {
            Sentence.refused("" + wrong, KeptEdges::some, y -> Sentence.bit(y.again(wrong)), 0);
        }
        Sentence.refused("under another number", () -> with(0), y -> Sentence.bit(y.again(1)), 0);
        Sentence.refused("under another number", () -> with(1), y -> Sentence.bit(y.again(0)), 0);
        Sentence.refused("no such number", () -> with(1), y -> Sentence.bit(y.again(2)), 0);
    }

    private static ShadowSpaces with(int i) {
        ShadowSpaces x = some();
        x.keep(i);
        x.ends(0);
        return x;
    }

    private static void count() {
        String[] whats = {"What 0: SPACES (bits),", "1: OBJECTS that are there (bits),", "2: FRAMES,", "3: WRITES,", "4: how many SPACES SHARE,",
            "5: PAGES that are AWAITED of all,", "6: what was heard,", "7: what was seen,", "8: what can be undone,", "9: numbers of the ROW,",
            "10: signs of THE TEXT."};
        int[] due = {31, 31, 5, 2, 2, 1, 1, 1, 8, 2, 4};
        int[] full = {63, 0xFFFFFF, 64, 65, 6, 0, 12, 10, 8, 24, 80};
        for (int what = 0; what <= 10; what++) {
            int w = what;
            says(46, whats[what]);
            due("of a new object", new ShadowSpaces().count(what), 0);
            due("of some", some().count(what), due[what]);
            due("the most", full().count(what), full[what]);
            Sentence.refused("nothing changes", KeptEdges::some, x -> x.count(w), due[what]);
        }
        ShadowSpaces late = Check.with("20", "20", "00");
        late.ends(2);
        for (int page = 0; page < 8; page++) {
            late.reads(page % 2, page);
            late.reads(1, page);
        }
        due("AWAITED of all", late.count(5), 12);
        due("bits", late.count(0) * 10 + late.count(1), 33);
        says(46, "NONE for another what.");
        for (int wrong : new int[] {-1, 11, 12, 32, Integer.MAX_VALUE, Integer.MIN_VALUE}) {
            Sentence.refused("" + wrong, KeptEdges::some, x -> x.count(wrong), -1);
        }
    }

    private static ShadowSpaces full() {
        ShadowSpaces x = Build.crowd(Build.calm("0011"), 0, 24, 64);
        x.writes(0, 0, 1);
        x.writes(0, 0, 2);
        Build.fork(x, 0);
        for (int i = 0; i < 12; i++) {
            x.heard(0, 0);
            x.saw(0, 0, 0);
        }
        for (int i = 0; i < 20; i++) {
            x.sign(0);
        }
        x.chain(0);
        return x;
    }

    private static void row() {
        says(47, "Number i of the ROW.");
        ShadowSpaces x = Build.deepen(Build.calm("00"), 0, 23);
        x.chain(0);
        for (int i = 0; i < 24; i++) {
            due("number " + i, x.row(i), 23 - i);
        }
        ShadowSpaces y = Check.with("00");
        y.odds(0, 1, 0);
        due("a large one", y.row(0) * 1000 + y.row(1) / 100000, 43046721L * 1000 + 1000);
        says(47, "NoSuchElementException: none such.");
        for (int wrong : new int[] {-1, 24, 25, 32, Integer.MAX_VALUE, Integer.MIN_VALUE}) {
            Sentence.none("of 24 " + wrong, x, z -> z.row(wrong));
        }
        x.frames();
        Sentence.none("what an older ROW had", x, z -> z.row(2));
        due("the second of two", x.row(1), 24);
        x.pages(0);
        Sentence.none("of none", x, z -> z.row(0));
        Sentence.none("of a new object", new ShadowSpaces(), z -> z.row(0));
        Sentence.question("nothing changes", () -> Check.with("0011"), z -> z.row(1), 10000000, 2187, 10000000);
    }
}
