/** The sentences of promises 1 to 9: texts, SPACES, THE RULE, OBJECTS, PAGES, DIGITS. */
final class SpaceEdges {
    private static final String EIGHTEEN = "000011223344556677";
    private static final String FORTY = "1+1+1+1+1+1+1+1+1+1+1+1+1+1+1+1+1+1+1+10";

    private SpaceEdges() {
    }

    static void all() {
        newObject();
        sign();
        end();
        spaces();
        spacesWrong();
        spacesFull();
        rule();
        space();
        object();
        page();
        sheet();
        sheetKinds();
        sheetRefused();
    }

    private static void says(int promise, String words) {
        Sentence.says(promise, words);
    }

    private static void due(String what, long got, long due) {
        Sentence.due(what, got, due);
    }

    private static void newObject() {
        says(1, "No SPACES, no OBJECTS.");
        ShadowSpaces x = new ShadowSpaces();
        for (int what = 0; what <= 10; what++) {
            due("count " + what, x.count(what), 0);
        }
        for (int s = -1; s <= 6; s++) {
            int space = s;
            Sentence.none("SPACE " + s, x, y -> y.space(space, 0));
            due("CHAIN of " + s, x.chain(s), -1);
            due("reads " + s, x.reads(s, 0), -1);
            due("forks " + s, x.forks(s), -1);
        }
        for (int o = -1; o <= 24; o++) {
            int object = o;
            Sentence.none("OBJECT " + o, x, y -> y.object(object, 0));
            Sentence.none("a PAGE of " + o, x, y -> y.page(object, 0));
            due("holders of " + o, x.holders(o), -1);
        }
        due("undo", x.undo(), -1);
        due("again", Sentence.bit(x.again(0)) + Sentence.bit(x.again(1)), 0);
        Sentence.none("no ROW", x, y -> y.row(0));
        due("NONE", ShadowSpaces.NONE, -1);
        ShadowSpaces other = Check.with("0011");
        due("another object has its own", x.count(0) * 10 + other.count(0), 1);
        ShadowSpaces old = Check.tell(new ShadowSpaces(), "0742");
        for (int i = 3; i < 510; i++) {
            old.sign(-1);
        }
        old.end(4);
        due("the 512th call", old.spaces(), 0);
    }

    // ---- texts

    private static void sign() {
        says(2, "Four signs come behind THE TEXT, of v the highest byte first: how many it has.");
        ShadowSpaces x = new ShadowSpaces();
        due("four", x.sign('0' << 24 | '7' << 16 | '1' << 8 | '2'), 4);
        due("four more", x.sign('3' << 24 | '4' << 16 | '5' << 8 | '6'), 8);
        due("read", x.spaces(), 0);
        due("from the highest byte on", x.object(0, 4) * 1000000 + x.page(0, 0) * 10000 + x.page(0, 1) * 100 + x.page(0, 2), 7123456);
        for (int i = 1; i <= 20; i++) {
            due("all are counted", x.sign(i % 2 == 0 ? Integer.MIN_VALUE : -1), 4 * i);
        }
        ShadowSpaces y = new ShadowSpaces();
        y.sign('0' << 24 | '0' << 16 | ('1' + 128) << 8 | '1');
        due("eight bits of each: 177 is no 1", y.spaces(), -3);
        y.sign(('0' + 128) << 24 | '0' << 16 | '1' << 8 | '1');
        due("of the highest byte, too", y.spaces(), -1);
        y.sign(0);
        y.end(1);
        due("a sign 0 is one, too", y.spaces(), -1);
        says(2, "Refused: there would be more than 80.");
        for (int length = 76; length <= 80; length++) {
            int n = length;
            int before = Check.tell(new ShadowSpaces(), "0742" + "z".repeat(n - 4)).sign(0);
            due("behind " + n, before, n == 76 ? 80 : -1);
        }
        ShadowSpaces full = Check.tell(new ShadowSpaces(), "0742" + "z".repeat(76));
        due("refused", full.sign('3' << 24 | '3' << 16 | '3' << 8 | '3'), ShadowSpaces.NONE);
        due("still 80", full.count(10), 80);
        full.end(4);
        due("THE TEXT is as it was", full.spaces() + full.page(0, 0), 42);
        Sentence.refused("nothing changes", () -> Check.tell(Check.with("0011"), "z".repeat(78)), z -> z.sign(0), -1);
    }

    private static void end() {
        says(3, "THE TEXT has its first n signs alone: true;");
        ShadowSpaces x = Check.tell(new ShadowSpaces(), "0742zzzz");
        due("all of them", Sentence.bit(x.end(8)) * 100 + x.count(10), 108);
        due("four", Sentence.bit(x.end(4)) * 100 + x.count(10), 104);
        due("the first ones", x.spaces() + x.page(0, 0), 42);
        Check.tell(x, "0799").end(2);
        x.sign('1' << 24 | '1' << 16 | '2' << 8 | '2');
        due("the others are gone", x.spaces(), 1);
        due("signs come behind those", x.page(1, 0) * 100 + x.page(1, 1), 1122);
        due("none of none", Sentence.bit(x.end(0)) * 100 + x.count(10), 100);
        x.sign(0);
        due("none of four", Sentence.bit(x.end(0)) * 100 + x.count(10), 100);
        Check.tell(x, "z".repeat(80));
        due("80 of 80", Sentence.bit(x.end(80)) * 100 + x.count(10), 180);
        says(3, "false if it has not so many, or n is below 0.");
        int[] wrong = {9, 81, 1000, Integer.MAX_VALUE, -1, -8, Integer.MIN_VALUE};
        for (int n : wrong) {
            Sentence.refused("" + n, () -> Check.tell(Check.with("0011"), "0742zzzz"), y -> Sentence.bit(y.end(n)), 0);
        }
        due("one of none", Sentence.bit(new ShadowSpaces().end(1)), 0);
        Check.tell(x, "0742zzzz").end(4);
        due("what was cut off does not come back", Sentence.bit(x.end(5)), 0);
    }

    // ---- spaces

    private static void spaces() {
        says(4, "THE TEXT tells a SPACE, which comes: its number.");
        ShadowSpaces x = new ShadowSpaces();
        for (int s = 0; s < 6; s++) {
            due("SPACE " + s, Check.tell(x, "" + s % 4 + s + "0" + s).spaces(), s);
        }
        for (int s = 0; s < 6; s++) {
            int object = x.space(s, 0);
            due("as it was told", x.object(object, 3) * 100 + x.object(object, 4) * 10 + x.page(object, 0), s % 4 * 100 + s * 11);
        }
        x.ends(3);
        due("the least that is not there", Check.tell(x, "19").spaces(), 3);
        due("all six", x.count(0), 63);
        due("it can be undone", x.undo() * 100 + x.count(0), 755);
        ShadowSpaces y = Check.with(EIGHTEEN);
        for (int page = 0; page < 8; page++) {
            due("PAGE " + page, y.page(0, page), 11 * page);
        }
        due("none of 8", Check.with("00................").object(0, 0), 0);
        due("the last of 8", Check.with("00..............99").object(0, 0), 128);
        says(4, "-1 - p: the sign at p can't stand there");
        for (String text : new String[] {EIGHTEEN, "39................", "1099..88..77..66..", "2000"}) {
            for (int at = 0; at < text.length(); at++) {
                for (int sign = 0; sign < 256; sign++) {
                    String changed = text.substring(0, at) + (char) sign + text.substring(at + 1);
                    int wrong = wrongInSpace(changed);
                    due(text + " with " + sign + " at " + at, Check.tell(new ShadowSpaces(), changed).spaces(), wrong < 0 ? 0 : -1 - wrong);
                }
            }
        }
    }

    /** Of a text of whole PAGES: the first place that can't stand, or -1. */
    private static int wrongInSpace(String text) {
        for (int at = 0; at < text.length(); at++) {
            char c = text.charAt(at);
            boolean digit = "0123456789".indexOf(c) >= 0;
            boolean good = at == 0 ? "0123".indexOf(c) >= 0 : at == 1 ? digit : at % 2 == 0 ? digit || c == '.'
                : (text.charAt(at - 1) == '.') == (c == '.') && (digit || c == '.');
            if (!good) {
                return at;
            }
        }
        return -1;
    }

    private static ShadowSpaces some() {
        ShadowSpaces x = Check.with("1711", "20");
        x.forks(0);
        x.reads(1, 3);
        return x;
    }

    private static void refuses(String text, int due) {
        Sentence.refused("\"" + text + "\"", SpaceEdges::some, text, y -> y.spaces(), due);
    }

    private static void spacesWrong() {
        says(4, "(its end, if it ends ahead of DIGIT, or with one sign of a PAGE;");
        refuses("", -1);
        refuses("0", -2);
        refuses("3", -2);
        refuses("000", -4);
        refuses("00.", -4);
        refuses("00110", -6);
        refuses("0011.", -6);
        refuses("00001122334455667", -18);
        refuses("00001122334455....".substring(0, 17), -18);
        refuses("4", -1);
        refuses("00x", -3);
        says(4, "PAGES may be fewer than 8;");
        for (int length = 2; length <= 18; length += 2) {
            ShadowSpaces x = Check.with(EIGHTEEN.substring(0, length));
            due(length + " signs", x.object(0, 0), (1 << (length - 2) / 2) - 1);
        }
        says(4, "18, if it has more and the first 18 could end).");
        for (String behind : new String[] {"0", ".", "x", "\0", "00", "88", "....", "z".repeat(62)}) {
            refuses(EIGHTEEN + behind, -19);
        }
        refuses(EIGHTEEN.substring(0, 17) + "x7", -18);
        refuses(EIGHTEEN.substring(0, 17) + ".7", -18);
        refuses("x" + EIGHTEEN, -1);
        refuses("00................0", -19);
    }

    private static void spacesFull() {
        says(4, "-100: there are 6 SPACES;");
        Sentence.refused("six", () -> Check.with("00", "00", "00", "00", "00", "00"), "0011", x -> x.spaces(), -100);
        due("five", Check.tell(Check.with("00", "00", "00", "00", "00"), "0011").spaces(), 5);
        says(4, "-101: no OBJECT more can come;");
        Sentence.refused("24", () -> Build.crowd(Build.calm("00"), 0, 24, 23), "00", x -> x.spaces(), -101);
        ShadowSpaces x = Build.crowd(Build.calm("00"), 0, 23, 22);
        due("23", Check.tell(x, "00").spaces(), 1);
        due("OBJECT 23", x.space(1, 0), 23);
        says(4, "-102: there would be too many FRAMES");
        Sentence.refused("62 and 3", () -> Build.fill(Build.calm("00"), 0, 62), "00112233", y -> y.spaces(), -102);
        Sentence.refused("64 and 1", () -> Build.fill(Build.calm("00"), 0, 64), "00..............11", y -> y.spaces(), -102);
        Sentence.refused("57 and 8", () -> Build.fill(Build.calm("00"), 0, 57), EIGHTEEN, y -> y.spaces(), -102);
        due("56 and 8", Check.tell(Build.fill(Build.calm("00"), 0, 56), EIGHTEEN).spaces(), 1);
        due("62 and 2, others not HELD", Check.tell(Build.fill(Build.calm("00"), 0, 62), "00..11....22....").spaces(), 1);
        due("64 and none", Check.tell(Build.fill(Build.calm("00"), 0, 64), "00....").spaces(), 1);
        says(4, "(in this order, behind all signs; nothing changes).");
        Sentence.refused("a sign of them all", SpaceEdges::packed, "0011x1", y -> y.spaces(), -5);
        Sentence.refused("its end", SpaceEdges::packed, "001", y -> y.spaces(), -4);
        Sentence.refused("18", SpaceEdges::packed, EIGHTEEN + "0", y -> y.spaces(), -19);
        Sentence.refused("6 SPACES of three", SpaceEdges::packed, "0011", y -> y.spaces(), -100);
        Sentence.refused("OBJECTS of two", () -> Build.crowd(Build.calm("00"), 0, 24, 64), "0011", y -> y.spaces(), -101);
        Sentence.refused("SPACES ahead of FRAMES", () -> Build.fork(Build.fill(Build.calm("00"), 0, 64), 0), "0011", y -> y.spaces(), -100);
    }

    private static ShadowSpaces packed() {
        return Build.fork(Build.crowd(Build.calm("00"), 0, 24, 64), 0);
    }

    // ---- rule

    private static void rule() {
        says(5, "THE TEXT is THE RULE (an empty one: none): 0.");
        ShadowSpaces x = Build.deepen(Build.calm("00"), 0, 3);
        due("a text", Check.tell(x, "42").rule() + x.space(0, 3), 142);
        due("an empty one", Check.tell(x, "").rule() + x.space(0, 3), 101);
        x.tidies(0);
        due("none is n>3", x.space(0, 3), 100);
        due("another one", Check.tell(x, "n+6").rule() + x.space(0, 3), 107);
        due("40 signs", Check.tell(x, FORTY).rule(), 0);
        due("all are taken", x.space(0, 3), 129);
        for (String wrong : new String[] {"-x", "--", "((", "(((((", "1+", "2*(", "1<", "1<(2<", "1<2<", "999", "12n", "3-(4", ")", "1000"}) {
            for (String right : new String[] {"5", "2-3*4", "(1<2)<3", "-7", ""}) {
                ShadowSpaces one = Build.calm("00");
                ShadowSpaces other = Build.calm("00");
                Check.tell(one, wrong).rule();
                due("nothing is left of " + wrong, Check.tell(one, right).rule(), Check.tell(other, right).rule());
                due(right + " behind " + wrong, one.space(0, 3), other.space(0, 3));
            }
        }
        Sentence.leavesRow("nothing is told", SpaceEdges::some, y -> Check.tell(y, "1").rule());
        due("not to be undone", x.count(8), 8);
        x.undo();
        due("it stays", x.space(0, 3), 129);
        says(5, "-1 - p: the sign at p can't stand there");
        for (String text : new String[] {"(n+1)*2<-f/o", "((((t))))=w", "999-12*7>(p+s)", FORTY, "--(1<2)*(3>4)", "1<(2=3)"}) {
            for (int at = 0; at < text.length(); at++) {
                for (int sign = 0; sign < 128; sign++) {
                    String changed = text.substring(0, at) + (char) (sign < 127 ? sign : 200) + text.substring(at + 1);
                    int due = -1 - Model.wrongRule(changed);
                    due(changed + " with " + sign + " at " + at, Check.tell(new ShadowSpaces(), changed).rule(), due);
                }
            }
        }
        says(5, "(its end, if it ends too early;");
        String[] early = {"(", "-", "n+", "n-", "n*", "n/", "n<", "n>", "n=", "(n", "((n)", "(n+1", "n+(", "n+-", "((((", "1<-",
            FORTY.substring(0, 39) + "+"};
        for (String text : early) {
            Sentence.refused(text, () -> Build.ruled("42", "00"), text, y -> y.rule(), -1 - text.length());
        }
        for (int length = 1; length <= 40; length++) {
            due(length + " signs", Check.tell(x, FORTY.substring(0, length)).rule(), length % 2 == 0 && length < 40 ? -1 - length : 0);
        }
        says(5, "40, if it has more and the first 40 could go on or end).");
        for (String behind : new String[] {"+", "0", "x", "\0", "+1", "z".repeat(40)}) {
            Sentence.refused("could end", () -> Build.ruled("42", "00"), FORTY + behind, y -> y.rule(), -41);
            Sentence.refused("could go on", () -> Build.ruled("42", "00"), "-".repeat(40) + behind, y -> y.rule(), -41);
            Sentence.refused("could go on", () -> Build.ruled("42", "00"), FORTY.substring(0, 36) + "(1+1" + behind, y -> y.rule(), -41);
        }
        Sentence.refused("could not", () -> Build.ruled("42", "00"), FORTY.substring(0, 39) + "n+1", y -> y.rule(), -40);
        Sentence.refused("could not", () -> Build.ruled("42", "00"), "+" + FORTY, y -> y.rule(), -1);
    }

    // ---- space, object, page

    private static void space() {
        says(6, "Of a SPACE, what 0: its TOP,");
        ShadowSpaces x = Build.calm("0011", "1722");
        x.forks(0);
        x.writes(0, 1, 5);
        x.forks(1);
        int[] tops = {2, 1, 0, 3};
        int[] shares = {0, 0, 1, 1};
        int[] chains = {2, 1, 1, 2};
        for (int s = 0; s < 4; s++) {
            due("SPACE " + s, x.space(s, 0), tops[s]);
        }
        says(6, "1: 1 if it SHARES, else 0,");
        for (int s = 0; s < 4; s++) {
            due("SPACE " + s, x.space(s, 1), shares[s]);
        }
        says(6, "2: OBJECTS of its CHAIN,");
        for (int s = 0; s < 4; s++) {
            due("SPACE " + s, x.space(s, 2), chains[s]);
        }
        due("24", Build.deepen(Build.calm("00"), 0, 23).space(0, 2), 24);
        says(6, "3: THE RULE of it, p being 0 and all else as it is now (put to -99 .. 99), and 100.");
        x.writes(0, 7, 5);
        String[] rules = {"p", "p+1", "w", "n", "t", "s", "f", "o", "98", "99", "100", "999", "-98", "-99", "-100", "-999", "0"};
        int[] due = {100, 101, 102, 102, 102, 100, 4, 4, 198, 199, 199, 199, 2, 1, 1, 1, 100};
        due[6] = 100 + 2 + 2;
        due[7] = 100 + 4;
        for (int i = 0; i < rules.length; i++) {
            Check.rule(x, rules[i]);
            due(rules[i], x.space(0, 3), due[i]);
        }
        says(6, "NoSuchElementException: none such, another what.");
        for (int wrong : new int[] {-1, 4, 5, 6, 32, 64, Integer.MAX_VALUE, Integer.MIN_VALUE}) {
            Sentence.none("SPACE " + wrong, x, y -> y.space(wrong, 0));
            Sentence.none("what " + wrong, x, y -> y.space(0, wrong));
            Sentence.none("both", x, y -> y.space(wrong, wrong));
        }
        x.ends(2);
        Sentence.none("one that ended", x, y -> y.space(2, 0));
    }

    private static void object() {
        says(7, "Of an OBJECT, what 0: PAGES that it HOLDS (bits),");
        ShadowSpaces x = Build.calm("1711..22", "20", "3900000000000000" + "99");
        x.forks(0);
        x.forks(0);
        x.reads(1, 0);
        x.reads(1, 7);
        int[][] due = {{5, 24, 4, 1, 7, 2, 0}, {0, 24, 24, 2, 0, 1, 129}, {255, 24, 24, 3, 9, 1, 0}, {0, 4, 24, 0, 0, 1, 0},
            {0, 0, 24, 0, 0, 2, 0}};
        String[] whats = {"1: its SHADOW (24: none),", "2: its COPY (24: none),", "3: PAGER,", "4: DIGIT,", "5: how many HOLDERS,",
            "6: PAGES that are AWAITED (bits)."};
        for (int what = 0; what <= 6; what++) {
            if (what > 0) {
                says(7, whats[what - 1]);
            }
            for (int o = 0; o < due.length; o++) {
                due("OBJECT " + o, x.object(o, what), due[o][what]);
            }
        }
        says(7, "NoSuchElementException: none such, another what.");
        for (int wrong : new int[] {-1, 24, 25, 32, 64, Integer.MAX_VALUE, Integer.MIN_VALUE}) {
            Sentence.none("OBJECT " + wrong, x, y -> y.object(wrong, 0));
            Sentence.none("what " + wrong, x, y -> y.object(0, wrong));
        }
        Sentence.none("what 7", x, y -> y.object(0, 7));
        Sentence.none("OBJECT 5", x, y -> y.object(5, 0));
        Sentence.none("OBJECT 23", x, y -> y.object(23, 0));
        x.ends(2);
        Sentence.none("one that was FREED", x, y -> y.object(2, 3));
        ShadowSpaces deep = Build.deepen(Build.calm("00"), 0, 23);
        due("OBJECT 23 is there", deep.object(23, 5), 1);
        Sentence.none("OBJECT 24", deep, y -> y.object(24, 5));
    }

    private static void page() {
        says(8, "The value of a PAGE that an OBJECT HOLDS.");
        ShadowSpaces x = Build.calm("0000............99", "3055");
        due("0", x.page(0, 0), 0);
        due("99", x.page(0, 7), 99);
        due("another one's", x.page(1, 0), 55);
        x.writes(0, 0, 77);
        due("written", x.page(0, 0), 77);
        says(8, "NoSuchElementException: none such, not HELD.");
        for (int wrong : new int[] {-1, 8, 24, 32, 64, Integer.MAX_VALUE, Integer.MIN_VALUE}) {
            Sentence.none("OBJECT " + wrong, x, y -> y.page(wrong, 0));
            Sentence.none("PAGE " + wrong, x, y -> y.page(0, wrong));
        }
        Sentence.none("OBJECT 2", x, y -> y.page(2, 0));
        Sentence.none("not HELD", x, y -> y.page(0, 1));
        x.forks(0);
        x.writes(0, 1, 5);
        Sentence.none("HELD by its SHADOW alone", x, y -> y.page(2, 0));
        x.ends(1);
        Sentence.none("one that was FREED", x, y -> y.page(1, 0));
        ShadowSpaces late = Check.with("20");
        late.reads(0, 0);
        Sentence.none("AWAITED", late, y -> y.page(0, 0));
    }

    // ---- sheet

    private static long digits(ShadowSpaces x) {
        long all = 0;
        for (int o = 0; o < 24; o++) {
            if ((x.count(1) >> o & 1) == 1) {
                all = 10 * all + x.object(o, 4);
            }
        }
        return all;
    }

    private static ShadowSpaces three() {
        ShadowSpaces x = Check.with("01", "12", "03");
        x.ends(1);
        Check.tell(x, "04").spaces();
        Check.tell(x, "05").spaces();
        x.ends(1);
        return x;
    }

    private static void sheet() {
        says(9, "DIGITS of OBJECTS that are there, from the least number on, as a sheet tells them:");
        ShadowSpaces x = three();
        due("OBJECTS 0, 2, 3", x.count(1), 13);
        due("as they were told", digits(x), 135);
        due("told anew", x.sheet(2, 3, 2, 3), 2 + 5 + 8);
        due("the least number first", digits(x), 258);
        Sentence.none("OBJECT 1 is still not there", x, y -> y.object(1, 4));
        ShadowSpaces pager = Check.with("11");
        pager.sheet(2, 1, 8, 0);
        due("a PAGER answers by it", pager.peeks(0, 3), 83);
        says(9, "bytes (kind 0), shorts (1), ints (2) of n entries f, f + step, ..");
        for (int kind = 0; kind <= 2; kind++) {
            due("kind " + kind, x.sheet(kind, 3, 1, 2), 9);
            due("kind " + kind, digits(x), 135);
            due("down", x.sheet(kind, 3, 9, -4) * 1000 + digits(x), 15951);
        }
        due("24 entries", x.sheet(2, 24, 1, 1) * 1000 + digits(x), 6123);
        ShadowSpaces deep = Build.deepen(Build.calm("09"), 0, 23);
        due("for 24 OBJECTS", deep.sheet(2, 24, 0, 1), 45 + 14 * 9);
        due("the last of them", deep.object(23, 4), 9);
        says(9, "(as ints, which go round;");
        due("above", x.sheet(2, 3, Integer.MAX_VALUE, 1) * 1000 + digits(x), 9900);
        due("round to 0", x.sheet(2, 3, Integer.MAX_VALUE - 1, 2) * 1000 + digits(x), 9900);
        due("round to 5", x.sheet(2, 3, 1, 2 - Integer.MAX_VALUE - 1) * 1000 + digits(x), 6105);
        due("twice round", x.sheet(2, 3, 5, Integer.MIN_VALUE) * 1000 + digits(x), 10505);
        due("the third is f again", x.sheet(1, 3, 7, Integer.MIN_VALUE) * 1000 + digits(x), 21777);
    }

    private static void sheetKinds() {
        ShadowSpaces x = three();
        says(9, "of bytes, shorts the lowest bits, with their sign;");
        due("bytes", x.sheet(0, 3, 256 + 3, 256) * 1000 + digits(x), 9333);
        due("127, 128, 129 as bytes", x.sheet(0, 3, 127, 1) * 1000 + digits(x), 9900);
        due("255, 256, 257 as bytes", x.sheet(0, 3, 255, 1) * 1000 + digits(x), 1001);
        due("-256, -255, -254 as bytes", x.sheet(0, 3, -256, 1) * 1000 + digits(x), 3012);
        due("255, 256, 257 as shorts", x.sheet(1, 3, 255, 1) * 1000 + digits(x), 27999);
        due("32767, 32768, 32769 as shorts", x.sheet(1, 3, 32767, 1) * 1000 + digits(x), 9900);
        due("65535, 65536, 65537 as shorts", x.sheet(1, 3, 65535, 1) * 1000 + digits(x), 1001);
        due("65535, 65536, 65537 as ints", x.sheet(2, 3, 65535, 1) * 1000 + digits(x), 27999);
        due("65536 * 5 + 4 as shorts", x.sheet(1, 3, 65536 * 5 + 4, 65536) * 1000 + digits(x), 12444);
        says(9, "put to 0 .. 9),");
        due("8, 9, 10", x.sheet(2, 3, 8, 1) * 1000 + digits(x), 26899);
        due("-1, 0, 1", x.sheet(2, 3, -1, 1) * 1000 + digits(x), 1001);
        due("far above", x.sheet(2, 3, Integer.MAX_VALUE, 0) * 1000 + digits(x), 27999);
        due("far below", x.sheet(2, 3, Integer.MIN_VALUE, 0) * 1000 + digits(x), 0);
        says(9, "or a missing one (3):");
        x.sheet(2, 3, 4, 0);
        due("no entries are read", x.sheet(3, 3, 4, 0), -3);
        due("all 0", digits(x), 0);
        says(9, "those behind it have 0:");
        due("one entry", x.sheet(2, 1, 7, 1) * 1000 + digits(x), 7700);
        due("two", x.sheet(2, 2, 7, 1) * 1000 + digits(x), 15780);
        due("none", x.sheet(2, 0, 7, 1) * 1000 + digits(x), 0);
        says(9, "the sum of all.");
        due("of those that have one", x.sheet(2, 2, 3, 1), 7);
        due("no more than are there", x.sheet(2, 24, 9, 0), 27);
        due("no OBJECTS", new ShadowSpaces().sheet(2, 24, 9, 0), 0);
        says(9, "Nothing is kept of it that could be undone"
            + " (an undo() behind it brings DIGITS back, too, as they were ahead of what is undone).");
        ShadowSpaces y = Check.with("01", "02");
        y.forks(0);
        y.sheet(2, 2, 7, 1);
        due("nothing more", y.count(8), 3);
        y.undo();
        due("as they were ahead of forks()", digits(y), 12);
        y.sheet(2, 2, 7, 1);
        y.forks(0);
        y.sheet(2, 2, 3, 1);
        y.undo();
        due("what a sheet told ahead of that", digits(y), 78);
    }

    private static void sheetRefused() {
        says(9, "-2: n below 0 (of kinds 0 .. 2; nothing changes);");
        for (int kind = 0; kind <= 2; kind++) {
            int k = kind;
            Sentence.refused("-1", SpaceEdges::three, x -> x.sheet(k, -1, 7, 1), -2);
            Sentence.refused("far below", SpaceEdges::three, x -> x.sheet(k, Integer.MIN_VALUE, 7, 1), -2);
        }
        due("0 is not", three().sheet(0, 0, 7, 1), 0);
        says(9, "-3: missing (all 0).");
        for (int n : new int[] {-1, 0, 1, 24, Integer.MIN_VALUE}) {
            ShadowSpaces x = three();
            due("n " + n, x.sheet(3, n, 7, 1), -3);
            due("all 0", digits(x), 0);
        }
        due("no OBJECTS", new ShadowSpaces().sheet(3, 0, 0, 0), -3);
        says(9, "NONE: another kind, n above 24 (these first).");
        for (int kind : new int[] {-1, 4, Integer.MAX_VALUE, Integer.MIN_VALUE}) {
            Sentence.refused("kind " + kind, SpaceEdges::three, x -> x.sheet(kind, 3, 7, 1), -1);
            Sentence.refused("ahead of -2", SpaceEdges::three, x -> x.sheet(kind, -1, 7, 1), -1);
        }
        for (int kind = 0; kind <= 3; kind++) {
            int k = kind;
            Sentence.refused("25 of kind " + k, SpaceEdges::three, x -> x.sheet(k, 25, 7, 1), -1);
            Sentence.refused("far above", SpaceEdges::three, x -> x.sheet(k, Integer.MAX_VALUE, 7, 1), -1);
        }
        due("24 is not above", three().sheet(2, 24, 1, 0), 3);
    }
}
