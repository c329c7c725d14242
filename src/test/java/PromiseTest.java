/** For each promise of the document ordinary inputs, the edges that it names, and wrong inputs. */
public final class PromiseTest {
    private PromiseTest() {
    }

    public static void main(String[] args) {
        promise1();
        promises2And3();
        promise4();
        promise4Limits();
        promise5Signs();
        promise5Values();
        promises6To8();
        promise9();
        promise10();
        promise11Plain();
        promise11Copies();
        promise11Tidies();
        promise11Refused();
        promise12();
        promise13();
        promise14();
        promise15Collapse();
        promise15Bypass();
        promise15Copies();
        promise16();
        promise16Signs();
        promise17();
        promises18And19();
        promises20And21();
        promises22And23();
        promises24To26();
        promises27And28();
        promise29();
        promise30();
        promise31();
        promises32And33();
        promises34And35();
        promises36And37();
        promises38And39();
        promise40();
        promise41();
        promise42();
        promise43();
        promises44And45();
        promises46And47();
        Check.finish();
    }

    private static void due(String what, long got, long due) {
        Check.due(what, got, due);
    }

    private static void promise1() {
        ShadowSpaces x = new ShadowSpaces();
        for (int what = 0; what <= 10; what++) {
            due("1: count " + what, x.count(what), 0);
        }
        for (int space = -1; space <= 6; space++) {
            int s = space;
            Check.none("1: space " + s, () -> x.space(s, 0));
        }
        for (int object = -1; object <= 24; object++) {
            int o = object;
            Check.none("1: object " + o, () -> x.object(o, 0));
        }
        due("1: NONE", ShadowSpaces.NONE, -1);
    }

    private static void promises2And3() {
        ShadowSpaces x = new ShadowSpaces();
        due("2: sign", x.sign('0' << 24 | '7' << 16 | '4' << 8 | '2'), 4);
        due("2: read highest first", x.spaces(), 0);
        due("2: PAGE 0", x.page(0, 0), 42);
        due("2: DIGIT", x.object(0, 4), 7);
        for (int i = 1; i <= 20; i++) {
            due("2: sign", x.sign(-1), 4 * i);
        }
        due("2: more than 80", x.sign(0), ShadowSpaces.NONE);
        due("2: unchanged", x.count(10), 80);
        Check.due("3: not so many", x.end(81), false);
        Check.due("3: below 0", x.end(-1), false);
        due("3: unchanged", x.count(10), 80);
        Check.due("3: all", x.end(80), true);
        Check.due("3: fewer", x.end(77), true);
        due("3: fewer", x.count(10), 77);
        due("2: 81 would be too many", x.sign(0), ShadowSpaces.NONE);
        Check.due("3: one less", x.end(76), true);
        due("2: 80 are not", x.sign(0), 80);
        Check.due("3: none", x.end(0), true);
        due("3: none", x.count(10), 0);
        Check.due("3: none again", x.end(0), true);
        Check.due("3: one of none", x.end(1), false);
        x.sign(0x30303132);
        x.end(2);
        x.sign(0x39393939);
        due("2: behind what is left", x.spaces(), 1);
        due("3: the first n alone", x.object(1, 0), 3);
        due("3: the first n alone", x.page(1, 0), 99);
        x.sign(0x3030 << 16 | 0xFF << 8);
        due("2: the highest sign is 255", x.spaces(), -3);
    }

    private static int spacesOf(String text) {
        return Check.tell(new ShadowSpaces(), text).spaces();
    }

    private static void promise4() {
        String[] right = {"00", "39", "0042", "00..", "00..42", "0000112233445566" + "77", "00................"};
        for (String text : right) {
            due("4: " + text, spacesOf(text), 0);
        }
        Object[][] wrong = {{"", -1}, {"4", -1}, {"x0", -1}, {"/0", -1}, {"0", -2}, {"0.", -2}, {"0:", -2}, {"000", -4},
            {"00.", -4}, {"00.1", -4}, {"001.", -4}, {"00x", -3}, {"001x", -4}, {"0011.", -6}, {"0011.2", -6},
            {"0000112233445566770", -19}, {"000011223344556677x", -19}, {"00001122334455667", -18}, {"0x001122334455667788", -2},
            {"00112233445566778x99", -18}};
        for (Object[] pair : wrong) {
            due("4: " + pair[0], spacesOf((String) pair[0]), (Integer) pair[1]);
        }
        ShadowSpaces x = Check.with("1742..07");
        due("4: PAGES", x.object(0, 0), 5);
        due("4: PAGE 2", x.page(0, 2), 7);
        due("4: PAGER", x.object(0, 3), 1);
        due("4: DIGIT", x.object(0, 4), 7);
        due("4: no SHADOW", x.object(0, 1), 24);
        due("4: TOP", x.space(0, 0), 0);
        due("4: does not SHARE", x.space(0, 1), 0);
        due("4: THE TEXT is emptied", x.count(10), 0);
        due("4: it can be undone", x.count(8), 1);
        Check.tell(x, "zz").spaces();
        due("4: THE TEXT is emptied by a refusal, too", x.count(10), 0);
        due("4: a refusal is not kept", x.count(8), 1);
        x.writes(0, 0, 9);
        Check.tell(x, "0011").spaces();
        due("4: undone", x.undo(), 2);
        due("4: what was ahead of it stays", x.page(0, 0) * 10 + x.count(0), 91);
        due("4: a refusal changes nothing", x.count(0), 1);
    }

    private static void promise4Limits() {
        ShadowSpaces x = Check.with("00", "00", "00", "00", "00", "00");
        due("4: a 7th SPACE", Check.tell(x, "00").spaces(), -100);
        due("4: signs come first", Check.tell(x, "4").spaces(), -1);
        x.ends(2);
        due("4: the least number", Check.tell(x, "09").spaces(), 2);
        due("4: the least OBJECT", x.space(2, 0), 2);
        String full = "00" + "1111111111111111";
        ShadowSpaces y = Check.with(full, full, full, full);
        fill(y, 64 - 32);
        due("4: FRAMES", y.count(2), 64);
        due("4: too many FRAMES", Check.tell(y, "0011").spaces(), -102);
        due("4: nothing changes", y.count(0), 15);
        due("4: one that HOLDS none", Check.tell(y, "00").spaces(), 4);
        ShadowSpaces z = Check.with(full, full, full, full, full);
        Check.rule(z, "0");
        due("4: 40 FRAMES", z.count(2), 40);
        deepen(z, 0, 19);
        due("4: 24 OBJECTS", z.count(1), (1 << 24) - 1);
        due("4: no OBJECT", Check.tell(z, full).spaces(), -101);
        Check.tell(z, "f0").day();
        due("4: -100 ahead of -101", Check.tell(z, full).spaces(), -100);
    }

    /** Each of SPACE s's OBJECTS gets one of its own above it; the SPACE that comes ends again. */
    private static void deepen(ShadowSpaces x, int s, int n) {
        for (int i = 0; i < n; i++) {
            int other = x.forks(s);
            x.writes(s, 0, i);
            x.ends(other);
        }
    }

    /** So many FRAMES more, in SPACE 0, without more than two SPACES more. */
    private static void fill(ShadowSpaces x, int n) {
        Check.rule(x, "0");
        int left = n;
        while (left > 0) {
            int other = x.forks(0);
            for (int page = 0; page < 8 && left > 0; page++) {
                x.writes(0, page, 50);
                left--;
            }
            x.ends(other);
        }
        Check.tell(x, "").rule();
    }

    private static int ruleOf(String text) {
        return Check.tell(new ShadowSpaces(), text).rule();
    }

    private static void promise5Signs() {
        String ones = "1+1+1+1+1+1+1+1+1+1+1+1+1+1+1+1+1+1+1+1";
        String[] right = {"", "n", "f", "o", "s", "p", "w", "t", "0", "999", "--n", "((((1))))", "(1)+(1)+(1)+(1)+(1)+(1)",
            "n<3", "(n<3)<2", "1<(2<3)", "(1<2)=(3>2)", "-(-1)", "1--1", "1*-1", "007", ones, ones + "2"};
        for (String text : right) {
            due("5: " + text, ruleOf(text), 0);
        }
        Object[][] wrong = {{"x", -1}, {" ", -1}, {"+", -1}, {")", -1}, {"<", -1}, {"-", -2}, {"n+", -3}, {"n<", -3},
            {"n<n<", -4}, {"n<n=n", -4}, {"n<n+n>n", -6}, {"(n<n<n)", -5}, {"(n<n)<n<n", -8}, {"1000", -4}, {"12n", -3},
            {"n1", -2}, {"nn", -2}, {"1)", -2}, {"()", -2}, {"(1", -3}, {"(((((1", -5}, {"1(", -2}, {"(1)(1)", -4},
            {"(1)1", -4}, {"n*/n", -3}, {"n+*n", -3}, {"1 ", -2}, {ones + "+", -41}, {ones + "+1", -41}, {ones + "23", -41},
            {ones + "2x", -41}, {"x" + ones + ones, -1}, {ones + "n1", -40}, {"n%2", -2}, {"N", -1}, {"n>3\0", -4}, {"((1<2<3))", -6},
            {"(((1<2<3)))", -7}, {"((((1<2<3))))", -8}, {"(1<2)<(1<2)<1", -12}};
        for (Object[] pair : wrong) {
            due("5: " + pair[0], ruleOf((String) pair[0]), (Integer) pair[1]);
        }
        ShadowSpaces x = Check.with("00");
        Check.rule(x, "42");
        Check.tell(x, "42+").rule();
        Check.tell(x, "((").rule();
        Check.tell(x, "1<").rule();
        due("5: a refused text changes nothing", x.space(0, 3), 142);
        Check.rule(x, "1<2");
        due("5: nor is anything left of it", x.space(0, 3), 101);
        Check.rule(x, "42");
        due("5: THE TEXT is emptied", x.count(10), 0);
        due("5: it can't be undone", x.count(8), 1);
        x.undo();
        Check.tell(x, "00").spaces();
        due("5: nor is it by others", x.space(0, 3), 142);
    }

    private static void reckons(ShadowSpaces x, String text, int due) {
        Check.rule(x, text);
        due("5: " + text, x.space(0, 3) - 100, due);
    }

    private static void promise5Values() {
        ShadowSpaces x = Check.with("0711..22", "00");
        Object[][] values = {{"1+2*3", 7}, {"(1+2)*3", 9}, {"7/2", 3}, {"-7/2", -3}, {"7/-2", -3}, {"0-7/2", -3}, {"5/0", 0},
            {"0/0", 0}, {"2-3-4", -5}, {"2-(3-4)", 3}, {"64/4/4", 4}, {"64/(4/4)", 64}, {"7/2*2", 6}, {"2*7/2", 7}, {"1<2", 1},
            {"2<1", 0}, {"2<2", 0}, {"2>1", 1}, {"2>2", 0}, {"2=2", 1}, {"2=3", 0}, {"1+1=2", 1}, {"1+(1=2)", 1}, {"--5", 5},
            {"---5", -5}, {"-2*3", -6}, {"2*-3", -6}, {"2--3", 5}, {"2---3", -1}, {"-(2+3)", -5}, {"-n+5", 4}, {"(1<2)<2", 1},
            {"1<(2<3)", 0}, {"999*999*999*3>0", 0}, {"999", 99}, {"-999", -99}, {"99", 99}, {"100", 99}, {"-99", -99},
            {"n", 1}, {"f", 2}, {"o", 2}, {"s", 0}, {"p", 0}, {"w", 0}, {"t", 2}, {"007", 7}, {"", 0},
            {"n*16-o*4+t", 10}, {"((1+2)*(3+4)-(5-6))/2", 11}};
        for (Object[] pair : values) {
            reckons(x, (String) pair[0], (Integer) pair[1]);
        }
        reckons(x, "512*512*512*16/-1<0", 1);
        reckons(x, "512*512*512*32", 0);
        Check.rule(x, "s*10+t");
        due("5: of another SPACE", x.space(1, 3), 110);
        for (int i = 1; i <= 8; i++) {
            x.writes(0, 0, 5);
            Check.rule(x, "w");
            due("5: w", x.space(0, 3), 100 + i % 7);
        }
        Check.rule(x, "n");
        x.forks(0);
        x.writes(0, 0, 5);
        due("5: n", x.space(0, 3), 102);
        Check.rule(x, "t");
        due("5: t is of the TOP alone", x.space(0, 3), 101);
    }

    private static void promises6To8() {
        ShadowSpaces x = Check.with("3955..66");
        due("7: PAGES", x.object(0, 0), 5);
        due("7: PAGER", x.object(0, 3), 3);
        due("7: DIGIT", x.object(0, 4), 9);
        due("7: HOLDERS", x.object(0, 5), 1);
        x.forks(0);
        due("6: TOP", x.space(1, 0), 1);
        due("6: SHARES", x.space(1, 1), 1);
        due("6: SHARES not", x.space(0, 1), 0);
        due("6: CHAIN", x.space(1, 2), 2);
        due("6: THE RULE", x.space(1, 3), 100);
        due("7: SHADOW", x.object(1, 1), 0);
        due("7: COPY", x.object(0, 2), 1);
        due("7: HOLDERS", x.object(0, 5), 2);
        due("7: none is AWAITED", x.object(0, 6), 0);
        due("7: DIGIT of what a FORK brings", x.object(1, 4), 0);
        due("8: page", x.page(0, 2), 66);
        int[] wrong = {-1, 2, 5, 6, Integer.MAX_VALUE, Integer.MIN_VALUE, 32, 64};
        for (int w : wrong) {
            Check.none("6: space " + w, () -> x.space(w, 0));
            Check.none("7: object " + w, () -> x.object(w, 0));
            Check.none("8: object " + w, () -> x.page(w, 0));
        }
        int[] wrongWhat = {-1, 7, 8, 32, Integer.MAX_VALUE, Integer.MIN_VALUE};
        for (int w : wrongWhat) {
            Check.none("6: what " + w, () -> x.space(0, w));
            Check.none("7: what " + w, () -> x.object(0, w));
            Check.none("8: page " + w, () -> x.page(0, w));
        }
        Check.none("6: what 4", () -> x.space(0, 4));
        Check.none("7: none such", () -> x.object(24, 0));
        Check.none("8: not HELD", () -> x.page(0, 1));
        Check.none("8: not HELD by that one", () -> x.page(1, 0));
        Check.rule(x, "n>1");
        due("6: THE RULE of that SPACE", x.space(1, 3), 101);
        due("6: THE RULE of that SPACE", x.space(0, 3), 100);
    }

    private static void promise9() {
        ShadowSpaces x = Check.with("01", "02", "03");
        x.ends(1);
        due("9: ints", x.sheet(2, 2, 5, 3), 13);
        due("9: OBJECT 0", x.object(0, 4), 5);
        due("9: OBJECT 2 is the second", x.object(2, 4), 8);
        due("9: put to 9", x.sheet(2, 2, 9, 1), 18);
        due("9: put to 0", x.sheet(2, 2, 1, -2), 1);
        due("9: those behind it", x.sheet(2, 1, 7, 1), 7);
        due("9: those behind it", x.object(2, 4), 0);
        due("9: none", x.sheet(2, 0, 7, 1), 0);
        due("9: more than there are", x.sheet(0, 24, 1, 1), 3);
        due("9: bytes", x.sheet(0, 2, 256 + 3, 0), 6);
        due("9: bytes have a sign", x.sheet(0, 2, 128, 0), 0);
        due("9: bytes", x.sheet(0, 2, 127, 0), 18);
        due("9: shorts", x.sheet(1, 2, 259, 0), 18);
        due("9: shorts", x.sheet(1, 2, 65536 + 4, 0), 8);
        due("9: shorts have a sign", x.sheet(1, 2, 32768, 0), 0);
        due("9: ints", x.sheet(2, 2, 65536 + 4, 0), 18);
        due("9: ints go round", x.sheet(2, 2, Integer.MAX_VALUE, 1), 9);
        due("9: ints go round", x.sheet(2, 2, 5, Integer.MIN_VALUE), 5);
        due("9: ints go round", x.sheet(0, 2, 5, Integer.MIN_VALUE), 10);
        due("9: n below 0", x.sheet(0, -1, 1, 1), -2);
        due("9: n below 0", x.sheet(2, Integer.MIN_VALUE, 1, 1), -2);
        due("9: nothing changes", x.object(0, 4), 5);
        due("9: another kind", x.sheet(4, 2, 1, 1), ShadowSpaces.NONE);
        due("9: another kind", x.sheet(-1, 2, 1, 1), ShadowSpaces.NONE);
        due("9: another kind ahead of n", x.sheet(4, -1, 1, 1), ShadowSpaces.NONE);
        due("9: n above 24", x.sheet(0, 25, 1, 1), ShadowSpaces.NONE);
        due("9: n above 24 of a missing one", x.sheet(3, 25, 1, 1), ShadowSpaces.NONE);
        due("9: nothing changes", x.object(0, 4), 5);
        due("9: missing", x.sheet(3, -5, 1, 1), -3);
        due("9: all 0", x.object(0, 4) + x.object(2, 4), 0);
        due("9: nothing is kept", x.count(8), 4);
        due("9: undo()", x.undo(), 3);
        due("9: DIGITS are back", x.object(0, 4) * 100 + x.object(1, 4) * 10 + x.object(2, 4), 123);
        ShadowSpaces y = Check.with("11");
        y.sheet(2, 1, 8, 0);
        due("9: a PAGER answers by the new DIGIT", y.reads(0, 3), 83);
    }

    private static void promise10() {
        ShadowSpaces zero = Check.with("10");
        Check.told("10: 0 of a PAGER that answers", zero, zero.reads(0, 0), 0, 1);
        due("10: is HELD, too", zero.object(0, 0), 1);
        ShadowSpaces x = Check.with("0742", "17", "20", "30");
        Check.told("10: HELD", x, x.reads(0, 0), 42, 0);
        Check.told("10: PAGER 0", x, x.reads(0, 7), 0, 1);
        due("10: is not HELD by that", x.object(0, 0), 1);
        Check.told("10: PAGER 1", x, x.reads(1, 5), 75, 1);
        Check.told("10: is HELD then", x, x.reads(1, 5), 75, 0);
        due("10: a FRAME", x.object(1, 0), 32);
        due("10: kept, each", x.count(8), 8);
        due("10: PAGER 2", x.reads(2, 4), -3);
        due("10: AWAITED", x.object(2, 6), 16);
        Check.told("10: the ROW stays", x, x.reads(2, 4), -3, 0);
        due("10: PAGER 3", x.reads(3, 4), -4);
        due("10: not AWAITED", x.object(3, 6), 0);
        due("10: no SPACE", x.reads(4, 0), -1);
        due("10: no SPACE", x.reads(-1, 0), -1);
        due("10: no PAGE", x.reads(0, 8), -1);
        due("10: no PAGE", x.reads(3, -1), -1);
        due("10: no PAGE", x.reads(0, 32), -1);
        Check.told("10: the ROW stays", x, 0, 0, 0);
        x.undo();
        due("10: the second -3 changed nothing", x.object(2, 6), 16);
        x.undo();
        due("10: the first one did", x.object(2, 6), 0);
        x.undo();
        x.undo();
        due("10: the FRAME is undone", x.object(1, 0), 0);
        x.forks(1);
        x.forks(1);
        Check.told("10: behind two COPIES", x, x.reads(4, 1), 71, 3);
        Check.told("10: held by the last", x, x.reads(4, 1), 71, 2);
        due("10: held by the last", x.object(1, 0), 2);
        x = Check.with("1011");
        due("10: a SPACE to fill", Check.tell(x, "0011").spaces(), 1);
        fillFrom(x, 1, 62);
        due("10: 64 FRAMES", x.count(2), 64);
        int before = x.count(8);
        due("10: no FRAME", x.reads(0, 1), -5);
        due("10: it changes nothing", x.object(0, 0), 1);
        due("10: it is not kept", x.count(8), before);
        Check.told("10: HELD", x, x.reads(0, 0), 11, 0);
    }

    /** As fill(), of another SPACE. */
    private static void fillFrom(ShadowSpaces x, int s, int n) {
        Check.rule(x, "0");
        int left = n;
        for (int page = 1; page < 8 && left > 0; page++) {
            x.writes(s, page, 50);
            left--;
        }
        while (left > 0) {
            int other = x.forks(s);
            for (int page = 0; page < 8 && left > 0; page++) {
                x.writes(s, page, 50);
                left--;
            }
            x.ends(other);
        }
        Check.tell(x, "").rule();
    }

    private static void promise11Plain() {
        ShadowSpaces x = Check.with("00102030");
        Check.told("11: HELD", x, x.writes(0, 0, 99), 1, 3, 1);
        due("11: value", x.page(0, 0), 99);
        Check.told("11: not HELD", x, x.writes(0, 7, 0), 1, 4, 1);
        due("11: value", x.page(0, 7), 0);
        due("11: WRITES", x.count(3), 2);
        x.forks(0);
        Check.told("11: SHARES", x, x.writes(1, 1, 5), 2, 5, 2);
        due("11: SHADOW", x.object(1, 1), 0);
        due("11: one PAGE alone", x.object(1, 0), 2);
        due("11: SHARES no more", x.space(1, 1), 0);
        due("11: the other one still does", x.space(0, 1), 1);
        due("11: what it sees", x.peeks(0, 1), 20);
        x.ends(1);
        Check.told("11: the only HOLDER", x, x.writes(0, 1, 6), 1, 4, 1);
        due("11: SHARES no more", x.space(0, 1), 0);
        due("11: NONE", x.writes(0, 0, 100), -1);
        due("11: NONE", x.writes(0, 0, -1), -1);
        due("11: NONE", x.writes(0, 8, 1), -1);
        due("11: NONE", x.writes(0, -1, 1), -1);
        due("11: NONE", x.writes(1, 0, 1), -1);
        due("11: NONE", x.writes(-1, 0, 1), -1);
        Check.told("11: the ROW stays", x, 0, 0, 4, 1);
        due("11: kept", x.count(8), 7);
        ShadowSpaces y = Check.with("20", "30");
        due("11: late", y.writes(0, 3, 1), -3);
        due("11: AWAITED", y.object(0, 6), 8);
        due("11: kept", y.count(8), 3);
        due("11: refused", y.writes(1, 3, 1), -4);
        due("11: not kept", y.count(8), 3);
        due("11: no WRITES", y.count(3), 0);
        due("11: NONE ahead of -4", y.writes(1, 3, 100), -1);
    }

    private static void promise11Copies() {
        ShadowSpaces x = Check.with("1742");
        x.forks(0);
        Check.told("11: pushes what it had", x, x.writes(0, 0, 1), 1, 2, 2);
        due("11: the COPY", x.page(1, 0), 42);
        Check.told("11: FETCHED first", x, x.writes(0, 3, 1), 1, 4, 2);
        due("11: the COPY", x.page(1, 3), 73);
        Check.told("11: it HOLDS that", x, x.writes(0, 3, 2), 1, 4, 2);
        due("11: the COPY has the older one", x.page(1, 3), 73);
        x.forks(0);
        x.writes(0, 3, 4);
        due("11: the newer COPY", x.page(2, 3), 2);
        due("11: the older one", x.page(1, 3), 73);
        x.writes(0, 5, 9);
        due("11: the newer one has it for both", x.peeks(1, 5), 75);
        due("11: not the older one", x.object(1, 0), 9);
        Check.told("11: a COPY is written", x, x.writes(1, 7, 1), 3, x.count(2), 3);
        due("11: FETCHED below, HELD above", x.page(0, 7), 77);
        x.ends(2);
        x.ends(1);
        due("11: nobody's COPY", x.object(0, 2), 24);
        Check.told("11: no COPY", x, x.writes(0, 0, 3), 1, 4, 1);
        ShadowSpaces y = Check.with("1011");
        y.forks(0);
        y.forks(1);
        due("11: SHARES and another HOLDER", y.writes(1, 0, 7), 3);
        due("11: COPY stays what it was", y.object(0, 2), 1);
        due("11: not HELD by it", y.object(1, 0), 0);
    }

    private static void promise11Tidies() {
        ShadowSpaces x = Check.with("00112233");
        deepen(x, 0, 2);
        due("11: no RULE", x.space(0, 2), 3);
        x.ends(x.forks(0));
        x.writes(0, 0, 9);
        due("11: PAGE 0 is HELD, nothing is TIDIED", x.space(0, 2), 3);
        x.forks(0);
        Check.told("11: n is 4: TIDIED behind what another SPACE has", x, x.writes(0, 1, 9), 2, 4, 2);
        ShadowSpaces y = Check.with("0011");
        Check.rule(y, "0");
        deepen(y, 0, 4);
        due("11: never TIDIED", y.space(0, 2), 5);
        Check.rule(y, "p=3");
        due("11: another PAGE", y.writes(0, 2, 1), 5);
        due("11: that PAGE", y.writes(0, 3, 1), 1);
        due("11: COLLAPSES leave what was seen", y.peeks(0, 0), 3);
        Check.rule(y, "1");
        y.ends(y.forks(0));
        y.forks(0);
        due("11: HELD not right ahead", y.writes(0, 0, 8), 2);
        y.ends(1);
        due("11: HELD right ahead", y.writes(0, 0, 8), 2);
        due("11: HELD not", y.writes(0, 1, 8), 1);
        ShadowSpaces z = Check.with("001122");
        Check.rule(z, "w=1");
        z.forks(0);
        z.writes(0, 0, 1);
        z.ends(1);
        due("11: WRITES are 1 more first", z.count(3), 1);
        due("11: w is 2", z.writes(0, 2, 1), 2);
        Check.rule(z, "0-1");
        due("11: below 0", z.writes(0, 3, 1), 2);
        Check.rule(z, "t=4");
        due("11: t is as all is then", z.writes(0, 4, 1), 1);
    }

    private static void promise11Refused() {
        ShadowSpaces x = Check.with("0011", "20", "1033");
        Check.rule(x, "0");
        deepen(x, 0, 21);
        due("11: 24 OBJECTS", x.count(1), (1 << 24) - 1);
        int other = x.forks(0);
        int before = x.count(8);
        due("11: no OBJECT", x.writes(other, 0, 1), -6);
        due("11: no OBJECT, though it is HELD", x.writes(0, 0, 1), -6);
        due("11: nothing changes", x.space(0, 1) + x.space(other, 1), 2);
        due("11: not kept", x.count(8), before);
        due("11: -3 ahead of -6", x.writes(1, 0, 1), -3);
        due("11: none has to come", x.writes(2, 0, 1), 1);
        ShadowSpaces one = Check.with("10", "0011");
        fillFrom(one, 1, 62);
        due("11: 63 FRAMES", one.count(2), 63);
        due("11: what is FETCHED into the TOP is one alone", one.writes(0, 0, 1), 1);
        due("11: 64", one.count(2), 64);
        ShadowSpaces y = Check.with("1011", "0011");
        fillFrom(y, 1, 61);
        due("11: 63 FRAMES", y.count(2), 63);
        int space = y.forks(0);
        due("11: FETCHED and pushed are two", y.writes(0, 3, 1), -5);
        due("11: nothing changes", y.object(0, 0), 1);
        due("11: no WRITES", y.object(y.space(space, 0), 0), 0);
        due("11: FETCHED below and HELD above are two", y.writes(space, 2, 2), -5);
        due("11: one", y.writes(0, 0, 1), 1);
        due("11: 64", y.count(2), 64);
        due("11: HELD", y.writes(0, 0, 2), 1);
        due("11: not HELD", y.writes(space, 1, 2), -5);
        due("11: HELD by the COPY", y.writes(space, 0, 2), 2);
        int shares = y.forks(space);
        due("11: an OBJECT comes, no FRAME for it", y.writes(shares, 0, 2), -5);
        due("11: it did not come", y.space(shares, 1), 1);
        due("11: it did not come", y.space(shares, 0), y.space(space, 0));
        y.ends(shares);
        due("11: still SHARES", y.space(space, 1), 1);
        due("11: the only HOLDER", y.writes(space, 0, 2), 2);
        due("11: SHARES no more", y.space(space, 1), 0);
    }

    private static void promise12() {
        ShadowSpaces x = Check.with("0011", "1022");
        due("12: PAGER 0", x.forks(0), 2);
        due("12: the same TOP", x.space(2, 0), 0);
        due("12: both SHARE", x.space(0, 1) * 10 + x.space(2, 1), 11);
        due("12: PAGER 1", x.forks(1), 3);
        due("12: an OBJECT", x.space(3, 0), 2);
        due("12: SHADOW", x.object(2, 1), 1);
        due("12: COPY", x.object(1, 2), 2);
        due("12: that one SHARES", x.space(3, 1) * 10 + x.space(1, 1), 10);
        due("12: again", x.forks(1), 4);
        due("12: SHADOW of the older COPY", x.object(2, 1), 3);
        due("12: SHADOW of the new one", x.object(3, 1), 1);
        due("12: COPY", x.object(1, 2), 3);
        due("12: of a COPY", x.forks(3), 5);
        due("12: the same TOP", x.space(5, 0), 2);
        due("12: who SHARED before SHARES still", x.count(4), 5);
        due("12: there are 6", x.forks(0), -2);
        due("12: there are 6", x.forks(1), -2);
        due("12: none such comes first", x.forks(6), -1);
        due("12: none such", x.forks(-1), -1);
        x.ends(0);
        int before = x.count(8);
        due("12: the least number", x.forks(2), 0);
        due("12: kept", x.undo(), before);
        due("12: undone", x.count(0), 62);
        ShadowSpaces y = Check.with("0011", "10");
        Check.rule(y, "0");
        deepen(y, 0, 22);
        due("12: no OBJECT", y.forks(1), -6);
        due("12: none has to come", y.forks(0), 2);
        y.forks(0);
        y.forks(0);
        y.forks(0);
        due("12: -2 ahead of -6", y.forks(1), -2);
        due("12: not kept", y.undo(), 7);
    }

    private static void promise13() {
        ShadowSpaces x = Check.with("0011", "10");
        x.forks(0);
        x.writes(2, 0, 1);
        due("13: one OBJECT", x.ends(2), 1);
        due("13: its FRAME", x.count(2), 1);
        due("13: it is there no more", x.count(1), 3);
        due("13: gone", x.ends(2), -1);
        x.forks(1);
        due("13: its COPY holds it", x.ends(1), 0);
        due("13: COPY", x.object(1, 2), 2);
        due("13: OBJECTS that have none by that", x.ends(2), 2);
        due("13: none such", x.ends(2), -1);
        due("13: none such", x.ends(-1), -1);
        due("13: none such", x.ends(6), -1);
        due("13: the last one", x.ends(0), 1);
        due("13: nothing is left", x.count(0) + x.count(1) + x.count(2), 0);
        ShadowSpaces y = Check.with("0011");
        y.forks(0);
        due("13: nothing is FREED", y.ends(0), 0);
        due("13: it still SHARES", y.space(1, 1), 1);
        ShadowSpaces z = Check.with("10");
        z.forks(0);
        z.forks(0);
        z.ends(2);
        due("13: the older COPY holds the newer one", z.object(0, 2), 2);
        due("13: both are FREED", z.ends(1), 2);
        due("13: nobody's COPY", z.object(0, 2), 24);
        ShadowSpaces w = Check.with("20", "0011");
        w.forks(1);
        w.reads(0, 3);
        due("13: nothing is AWAITED by what is FREED", w.ends(0) * 10 + w.count(5), 10);
        due("13: SHARES", w.count(4), 2);
        w.ends(1);
        due("13: SHARES no more", w.count(4), 1);
        w.ends(2);
        due("13: all is gone", w.count(4), 0);
        due("13: a new one", Check.tell(w, "20").spaces(), 0);
        due("13: SHARES not", w.space(0, 1), 0);
        due("13: AWAITS nothing", w.object(0, 6), 0);
    }

    private static void promise14() {
        ShadowSpaces x = Check.with("20", "10");
        x.reads(0, 3);
        x.reads(0, 7);
        due("14: arrives", x.arrives(0, 3, 99), 1);
        due("14: HELD", x.page(0, 3), 99);
        due("14: AWAITED no more", x.object(0, 6), 128);
        due("14: not AWAITED", x.arrives(0, 3, 5), -2);
        due("14: not AWAITED", x.arrives(1, 3, 5), -2);
        due("14: value", x.arrives(0, 7, 100), -1);
        due("14: value", x.arrives(0, 7, -1), -1);
        due("14: NONE ahead of -2", x.arrives(0, 0, 100), -1);
        due("14: PAGE", x.arrives(0, 8, 0), -1);
        due("14: PAGE", x.arrives(0, -1, 0), -1);
        due("14: OBJECT", x.arrives(2, 0, 0), -1);
        due("14: OBJECT", x.arrives(-1, 0, 0), -1);
        due("14: OBJECT", x.arrives(24, 0, 0), -1);
        due("14: kept", x.count(8), 5);
        due("14: the last one", x.arrives(0, 7, 0), 0);
        x.undo();
        due("14: undone", x.object(0, 6), 128);
        ShadowSpaces y = Check.with("20", "0011");
        y.reads(0, 0);
        fillFrom(y, 1, 63);
        due("14: -2 ahead of -5", y.arrives(0, 1, 1), -2);
        due("14: no FRAME", y.arrives(0, 0, 1), -5);
        due("14: nothing changes", y.object(0, 6), 1);
    }

    private static void promise15Collapse() {
        ShadowSpaces x = Check.with("00112233");
        Check.told("15: nothing", x, x.tidies(0), 0, 0, 0, 1);
        due("15: kept all the same", x.count(8), 2);
        x.forks(0);
        x.writes(0, 0, 99);
        Check.told("15: another HOLDER", x, x.tidies(0), 0, 0, 0, 2);
        x.ends(1);
        Check.told("15: a COLLAPSE", x, x.tidies(0), 1, 1, 0, 1);
        due("15: TOP stays", x.space(0, 0), 1);
        due("15: Y is FREED", x.count(1), 2);
        due("15: X's own", x.page(1, 0), 99);
        due("15: Y's", x.page(1, 1) * 100 + x.page(1, 2), 2233);
        due("15: FRAMES", x.count(2), 3);
        x.undo();
        due("15: undone", x.count(1) * 10 + x.count(2), 34);
        Check.told("15: once more", x, x.tidies(0), 1, 1, 0, 1);
        due("15: none such", x.tidies(1), -1);
        due("15: none such", x.tidies(-1), -1);
        Check.told("15: the ROW stays", x, 0, 0, 1, 0, 1);
        ShadowSpaces y = Check.with("1011");
        y.forks(0);
        y.ends(0);
        Check.told("15: Y has a PAGER", y, y.tidies(1), 0, 0, 0, 2);
        ShadowSpaces z = Check.with("0011");
        Check.rule(z, "0");
        deepen(z, 0, 5);
        Check.told("15: again and again", z, z.tidies(0), 5, 5, 0, 1);
        due("15: the newest", z.peeks(0, 0), 4);
        int lower = z.forks(0);
        z.writes(0, 1, 1);
        z.ends(z.forks(lower));
        z.forks(0);
        z.writes(0, 2, 1);
        Check.told("15: X is Y from then on", z, z.tidies(0), 0, 0, 0, 3);
    }

    private static void promise15Bypass() {
        ShadowSpaces x = Check.with("0011");
        x.forks(0);
        x.writes(0, 0, 2);
        Check.told("15: a BYPASS of what X HOLDS, too", x, x.tidies(0), 1, 0, 1, 1);
        due("15: no SHADOW", x.object(1, 1), 24);
        Check.told("15: nothing is left to do", x, x.tidies(0), 0, 0, 0, 1);
        due("15: Y stays", x.count(1), 3);
        ShadowSpaces y = Check.with("001122");
        y.forks(0);
        y.writes(0, 0, 2);
        Check.told("15: a PAGE that X does not HOLD", y, y.tidies(0), 0, 0, 0, 2);
        y.writes(0, 1, 2);
        Check.told("15: each PAGE", y, y.tidies(0), 1, 0, 1, 1);
        ShadowSpaces z = Check.with("1011");
        z.forks(0);
        Check.rule(z, "0");
        for (int page = 0; page < 7; page++) {
            z.writes(1, page, page);
        }
        Check.told("15: seven PAGES", z, z.tidies(1), 0, 0, 0, 2);
        z.writes(1, 7, 7);
        due("15: still a COPY", z.object(0, 2), 1);
        Check.told("15: all PAGES", z, z.tidies(1), 1, 0, 1, 1);
        due("15: nobody's COPY any more", z.object(0, 2), 24);
        due("15: Y stays", z.object(0, 5), 1);
        ShadowSpaces w = Check.with("1011");
        w.forks(0);
        w.ends(0);
        Check.rule(w, "0");
        for (int page = 0; page < 8; page++) {
            w.writes(1, page, page);
        }
        Check.told("15: Y without HOLDERS", w, w.tidies(1), 1, 0, 1, 1);
        due("15: is FREED", w.count(1), 2);
        Check.rule(w, "1");
        w.forks(1);
        w.forks(1);
        w.writes(1, 0, 1);
        due("15: a BYPASS to what is below none", w.object(w.space(1, 0), 1), w.space(0, 0));
    }

    private static void promise15Copies() {
        ShadowSpaces x = Check.with("10");
        x.forks(0);
        x.forks(0);
        x.forks(2);
        x.ends(3);
        Check.told("15: Y is somebody's COPY, not only X's", x, x.tidies(1), 0, 0, 0, 3);
        x.ends(2);
        Check.told("15: a COLLAPSE of a COPY", x, x.tidies(1), 1, 1, 0, 2);
        due("15: who had Y has X", x.object(0, 2), 1);
        x.writes(0, 2, 9);
        due("15: pushed into X", x.page(1, 2), 2);
        ShadowSpaces y = Check.with("1011");
        Check.rule(y, "0");
        y.forks(0);
        y.forks(0);
        Check.told("15: nothing HELD by a COPY, yet no BYPASS", y, y.tidies(1), 0, 0, 0, 3);
        y.writes(0, 0, 5);
        y.writes(2, 0, 6);
        due("15: it comes ahead of what two hold", y.space(2, 2), 3);
        ShadowSpaces z = Check.with("0011");
        Check.rule(z, "0");
        z.forks(0);
        z.writes(0, 1, 1);
        z.forks(0);
        z.writes(0, 1, 2);
        z.forks(2);
        Check.told("15: a BYPASS to what is below", z, z.tidies(0), 1, 0, 1, 2);
        due("15: SHADOW", z.object(z.space(0, 0), 1), 0);
        due("15: HOLDERS", z.object(0, 5), 3);
    }

    private static void promise16() {
        ShadowSpaces x = Check.with("0011", "20", "30");
        int before = x.count(8);
        Check.told("16: empty", x, Check.tell(x, "").day(), 0, 0, 1);
        due("16: not kept", x.count(8), before);
        Check.told("16: all kinds", x, Check.tell(x, "r00w0142f0w3099t0e3t0").day(), 7, 0, 2);
        due("16: as one", x.count(8), before + 1);
        due("16: THE TEXT is emptied", x.count(10), 0);
        x.undo();
        due("16: undone as one", x.count(2) * 100 + x.count(0), 107);
        Check.told("16: one can't be", x, Check.tell(x, "w0111e5w0222").day(), 1, 1, 2);
        due("16: what was done stands", x.object(0, 0), 3);
        due("16: kept", x.count(8), before + 1);
        Check.told("16: the first can't be", x, Check.tell(x, "r20w0333").day(), 0, 1, 2);
        due("16: not kept", x.count(8), before + 1);
        Check.told("16: the first makes it AWAITED", x, Check.tell(x, "w1355").day(), 0, 1, 2);
        due("16: kept", x.count(8), before + 2);
        due("16: AWAITED", x.object(1, 6), 8);
        Check.told("16: it is AWAITED already", x, Check.tell(x, "r13").day(), 0, 1, 2);
        due("16: not kept", x.count(8), before + 2);
        Check.told("16: arrives", x, Check.tell(x, "a01377r13r14").day(), 2, 1, 3);
        due("16: AWAITED by the last one", x.object(1, 6), 16);
        due("16: undone as one", x.undo(), before + 2);
        due("16: AWAITED", x.object(1, 6), 8);
        Check.told("16: no such SPACE", x, Check.tell(x, "f9").day(), 0, 1, 2);
        Check.told("16: no such OBJECT", x, Check.tell(x, "a99000").day(), 0, 1, 2);
        Check.rule(x, "n>1");
        Check.told("16: THE RULE holds", x, Check.tell(x, "f0w0088e3w0799").day(), 4, 0, 3);
        due("16: THE RULE holds", x.space(0, 2), 1);
    }

    private static void promise16Signs() {
        ShadowSpaces x = Check.with("00");
        String sixty = "w0011w0011w0011w0011w0011w0011w0011w0011w0011w0011w0011w0011";
        Object[][] wrong = {{"x", -1}, {"r", -2}, {"r0", -3}, {"r08", -3}, {"rx", -2}, {"w00", -4}, {"w001", -5}, {"w0x", -3},
            {"w001x", -5}, {"w00x1", -4}, {"w08", -3}, {"f", -2}, {"fx", -2}, {"e", -2}, {"t", -2}, {"a0", -3}, {"a00", -4},
            {"a008", -4}, {"a000", -5}, {"a0001", -6}, {"a0x", -3}, {"f0x", -3}, {"f00", -3}, {"f0 ", -3}, {"F0", -1},
            {sixty + "f", -61}, {sixty + "x", -61}, {sixty.substring(1) + "ff", -1}, {sixty.substring(0, 58) + "x11", -59},
            {sixty.substring(0, 55) + "f0f0f", -61}, {sixty.substring(0, 55) + "f0f0f0", -61}};
        for (Object[] pair : wrong) {
            due("16: " + pair[0], Check.tell(x, (String) pair[0]).day(), (Integer) pair[1]);
        }
        due("16: nothing is done", x.count(3), 0);
        due("16: the ROW stays", x.count(9), 0);
        Check.told("16: 60 signs", x, Check.tell(x, sixty).day(), 12, 0, 1);
    }

    private static void promise17() {
        ShadowSpaces x = new ShadowSpaces();
        due("17: none", x.undo(), -1);
        Check.tell(x, "00").spaces();
        for (int i = 1; i <= 9; i++) {
            x.writes(0, 0, i);
        }
        due("17: 8 are kept", x.count(8), 8);
        for (int i = 8; i >= 1; i--) {
            due("17: undo", x.undo(), i - 1);
            due("17: value", x.page(0, 0), i);
            due("17: WRITES", x.count(3), i);
        }
        due("17: none is left", x.undo(), -1);
        due("17: nothing changes", x.page(0, 0), 1);
        x.ends(0);
        due("17: ends()", x.count(0), 0);
        due("17: undo", x.undo(), 0);
        due("17: back", x.page(0, 0), 1);
        ShadowSpaces y = Check.with("0011");
        y.heard(0, 0);
        y.saw(1, 1, 1);
        y.sign(0);
        Check.told("17: a ROW", y, y.frames(), 1, 1, 1);
        y.forks(0);
        Check.told("17: the ROW stays", y, y.undo(), 1, 1, 1);
        due("17: SHARES no more", y.space(0, 1), 0);
        y.undo();
        due("17: all else stays", y.count(6) * 100 + y.count(7) * 10 + y.count(10), 114);
        due("17: SPACES", y.count(0) + y.count(1), 0);
    }

    private static void promises18And19() {
        ShadowSpaces x = Check.with("1742", "20", "30", "0055");
        x.forks(0);
        x.forks(0);
        Check.told("18: chain", x, x.chain(4), 3, 4, 5, 0);
        Check.told("18: chain", x, x.chain(5), 2, 5, 0);
        Check.told("18: chain", x, x.chain(0), 1, 0);
        due("18: none such", x.chain(6), -1);
        due("18: none such", x.chain(-1), -1);
        Check.told("18: the ROW stays", x, 0, 0, 0);
        Check.told("19: HELD", x, x.peeks(4, 0), 42, 2);
        Check.told("19: of a PAGER", x, x.peeks(4, 1), 71, 3);
        due("19: nothing changes", x.count(2), 2);
        due("19: late", x.peeks(1, 1), -3);
        due("19: nothing changes", x.count(5), 0);
        due("19: refused", x.peeks(2, 1), -4);
        Check.told("19: PAGER 0", x, x.peeks(3, 1), 0, 1);
        x.reads(1, 1);
        due("19: AWAITED already", x.peeks(1, 1), -3);
        due("19: none such", x.peeks(6, 0), -1);
        due("19: none such", x.peeks(0, 8), -1);
        due("19: none such", x.peeks(1, -1), -1);
        due("19: not kept", x.count(8), 7);
        ShadowSpaces y = Check.with("1011", "0011");
        fillFrom(y, 1, 62);
        due("19: no FRAME is left", y.reads(0, 1), -5);
        Check.told("19: were there enough", y, y.peeks(0, 1), 1, 1);
        ShadowSpaces z = Check.with("0011");
        Check.rule(z, "0");
        deepen(z, 0, 23);
        due("18: the longest CHAIN", z.chain(0), 24);
        due("18: the longest ROW", z.count(9), 24);
        due("18: its end", z.row(23), 0);
    }

    private static void promises20And21() {
        ShadowSpaces x = Check.with("001122", "0011");
        x.forks(0);
        x.writes(2, 0, 9);
        Check.told("20: two", x, x.holders(0), 5, 2);
        Check.told("20: one", x, x.holders(2), 4, 1);
        Check.told("20: one", x, x.holders(1), 2, 1);
        due("20: none such", x.holders(3), -1);
        due("20: none such", x.holders(-1), -1);
        due("20: none such", x.holders(24), -1);
        Check.told("20: the ROW stays", x, 0, 0, 1);
        Check.told("21: of one OBJECT", x, x.shared(0, 2), 2, 1);
        Check.told("21: like values are not one FRAME", x, x.shared(0, 1), 0, 0);
        Check.told("21: either way", x, x.shared(2, 0), 2, 1);
        ShadowSpaces y = Check.with("0011..2233");
        y.forks(0);
        Check.told("21: three", y, y.shared(0, 1), 13, 3);
        due("21: like ones", x.shared(0, 0), -1);
        due("21: none such", x.shared(0, 3), -1);
        due("21: none such", x.shared(-1, 0), -1);
        due("21: like ones that are not there", x.shared(5, 5), -1);
        Check.told("21: the ROW stays", x, 0, 0, 1);
    }

    private static void promises22And23() {
        ShadowSpaces x = Check.with("001122", "0011", "20", "30", "20");
        Check.told("22: values", x, x.differ(0, 1), 2, 1);
        x.writes(0, 5, 0);
        Check.told("22: 0 HELD and 0 of a PAGER are alike", x, x.differ(0, 1), 2, 1);
        Check.told("22: -3 and -4", x, x.differ(2, 3), 255, 8);
        Check.told("22: a value and none", x, x.differ(0, 2), 255, 8);
        Check.told("22: none of both", x, x.differ(2, 4), 255, 8);
        due("22: like ones", x.differ(1, 1), -1);
        due("22: none such", x.differ(1, 5), -1);
        due("22: none such", x.differ(6, 1), -1);
        due("23: none", x.common(0, 1), -2);
        Check.told("23: the ROW stays", x, 0, 0, 8);
        due("23: like ones", x.common(1, 1), -1);
        due("23: none such", x.common(1, 5), -1);
        ShadowSpaces y = Check.with("1011");
        y.forks(0);
        y.forks(0);
        Check.told("23: common", y, y.common(1, 2), 2, 1, 0);
        Check.told("23: common", y, y.common(2, 1), 2, 0, 1);
        Check.told("23: common", y, y.common(0, 1), 0, 0, 2);
        Check.told("22: of one FRAME", y, y.differ(1, 2), 0, 0);
    }

    private static void promises24To26() {
        ShadowSpaces x = new ShadowSpaces();
        due("26: no SPACE", x.deepest(), -2);
        Check.told("25: nothing", x, x.frames(), 0, 0, 0);
        due("24: nothing", x.hidden(), 0);
        due("24: nothing without", x.count(9), 0);
        x = Check.with("001122", "0011");
        Check.told("24: none", x, x.hidden(), 0);
        x.forks(0);
        x.writes(0, 1, 5);
        Check.told("24: still seen by the other", x, x.hidden(), 0);
        x.writes(2, 1, 6);
        Check.told("24: seen by none", x, x.hidden(), 1, 0, 1);
        x.writes(2, 0, 6);
        x.writes(0, 0, 6);
        Check.told("24: the least", x, x.hidden(), 2, 0, 0);
        Check.told("25: of their own", x, x.frames(), 7, 5, 4);
        x.writes(2, 7, 1);
        Check.told("25: of their own", x, x.frames(), 8, 6, 4);
        Check.told("26: of as long ones the least", x, x.deepest(), 0, 2, 2);
        x.ends(0);
        Check.told("26: the longest", x, x.deepest(), 2, 2, 1);
        x.ends(2);
        Check.told("26: one", x, x.deepest(), 1, 1, 1);
        ShadowSpaces y = Check.with("1011");
        y.forks(0);
        Check.told("25: of the CHAIN", y, y.frames(), 1, 2, 2);
    }

    private static void promises27And28() {
        ShadowSpaces x = Check.with("001122");
        x.forks(0);
        x.writes(0, 0, 9);
        Check.told("27: nothing", x, x.would(0), 0, 0, 0, 2, 3);
        x.ends(1);
        Check.told("27: a COLLAPSE", x, x.would(0), 1, 1, 0, 1, 2);
        due("27: nothing changes", x.count(2) * 10 + x.space(0, 2), 32);
        due("27: not kept", x.count(8), 4);
        due("27: none such", x.would(1), -1);
        due("27: none such", x.would(-1), -1);
        Check.told("27: the ROW stays", x, 0, 0, 1, 0, 1, 2);
        x.undo();
        x.writes(0, 1, 9);
        Check.told("27: a BYPASS", x, x.would(0), 1, 0, 1, 1, 4);
        Check.told("28: two SPACES", x, x.frees(0), 2, 0);
        Check.told("28: one", x, x.frees(1), 1, 2);
        due("28: nothing changes", x.count(0), 3);
        due("28: none such", x.frees(2), -1);
        due("28: none such", x.frees(-1), -1);
        due("28: none such", x.frees(24), -1);
        Check.told("28: the ROW stays", x, 0, 0, 2);
        x.ends(1);
        Check.told("28: the last", x, x.frees(1), 1, 0);
    }

    private static void promise29() {
        ShadowSpaces x = Check.with("0011", "30");
        Check.told("29: none", x, x.storm(0, 0), 1, 2, 2);
        Check.told("29: three", x, x.storm(0, 3), 4, 5, 5);
        Check.told("29: four", x, x.storm(0, 4), 5, 6, 6);
        Check.told("29: the fifth is left out", x, x.storm(0, 5), 5, 6, 6);
        Check.told("29: WRITES are refused", x, x.storm(1, 2), 1, 4, 4);
        due("29: nothing changes", x.count(0) * 100 + x.count(2), 301);
        due("29: not kept", x.count(8), 2);
        due("29: 6", x.storm(0, 6), -1);
        due("29: below 0", x.storm(0, -1), -1);
        due("29: none such", x.storm(2, 1), -1);
        Check.told("29: the ROW stays", x, 0, 0, 4, 4);
        ShadowSpaces y = Check.with("1711");
        Check.told("29: COPIES", y, y.storm(0, 2), 3, 4, 3);
        Check.rule(x, "1");
        Check.told("29: TIDIED", x, x.storm(0, 3), 4, 5, 5);
        ShadowSpaces z = Check.with("0011");
        Check.rule(z, "1");
        z.forks(0);
        z.writes(1, 1, 5);
        z.ends(0);
        Check.told("29: TIDIED", z, z.storm(1, 1), 3, 2, 2);
    }

    private static void promise30() {
        ShadowSpaces x = Check.with("0011", "20", "30", "1711");
        Check.told("30: all", x, x.sweep(0, 5), 1, 9, 0);
        Check.told("30: late ones", x, x.sweep(1, 5), 1, 2, 8);
        Check.told("30: refused ones", x, x.sweep(2, 5), 1, 2, 8);
        due("30: nothing changes", x.count(2) * 10 + x.count(5), 20);
        x.forks(3);
        Check.told("30: pushed", x, x.sweep(3, 5), 1, 17, 0);
        Check.told("30: the last WRITE is TIDIED not", x, x.sweep(4, 0), 2, 1 + 8 + 8, 0);
        Check.rule(x, "t=8");
        Check.told("30: TIDIED by the last WRITE", x, x.sweep(4, 0), 1, 1 + 8 + 8, 0);
        due("30: not kept", x.count(8), 5);
        due("30: value", x.sweep(0, 100), -1);
        due("30: value", x.sweep(0, -1), -1);
        due("30: none such", x.sweep(5, 0), -1);
        due("30: none such", x.sweep(-1, 0), -1);
        Check.told("30: the ROW stays", x, 0, 0, 17, 0);
    }

    private static void promise31() {
        ShadowSpaces x = Check.with("0011", "001122334455667788", "00");
        Check.told("31: 7 PAGES", x, x.odds(0, 5, 0), 0, 1, 128);
        Check.told("31: 7 PAGES", x, x.odds(0, 5, 1), 0, 1, 16);
        Check.told("31: all of them", x, x.odds(0, 5, 7), 0, 1, 1);
        Check.told("31: never", x, x.odds(0, 0, 0), 0, 1, 1);
        Check.told("31: always", x, x.odds(0, 10, 6), 0, 0, 1);
        Check.told("31: always", x, x.odds(0, 10, 7), 0, 1, 1);
        Check.told("31: no PAGES", x, x.odds(1, 10, 0), 0, 1, 1);
        Check.told("31: 8 PAGES", x, x.odds(2, 1, 0), 0, 43046721, 100000000);
        Check.told("31: 8 PAGES", x, x.odds(2, 3, 1), 0, 25529833, 100000000);
        Check.told("31: 8 PAGES", x, x.odds(2, 4, 8), 0, 1, 1);
        x.forks(1);
        Check.told("31: it SHARES", x, x.odds(1, 5, 0), 0, 1, 256);
        x.ends(3);
        Check.told("31: the only HOLDER", x, x.odds(1, 5, 0), 0, 1, 1);
        due("31: p", x.odds(0, 11, 0), -1);
        due("31: p", x.odds(0, -1, 0), -1);
        due("31: k", x.odds(0, 0, 9), -1);
        due("31: k", x.odds(0, 0, -1), -1);
        due("31: none such", x.odds(3, 0, 0), -1);
        Check.told("31: the ROW stays", x, 0, 0, 1, 1);
    }

    private static void promises32And33() {
        ShadowSpaces x = new ShadowSpaces();
        int[] limits = {24, 8, 10, 6};
        for (int what = 0; what < 4; what++) {
            due("32: the highest", x.heard(what, limits[what] - 1), 2 * what + 1);
            due("32: the least", x.heard(what, 0), 2 * what + 2);
            due("32: above", x.heard(what, limits[what]), -1);
            due("32: below", x.heard(what, -1), -1);
        }
        due("32: what", x.heard(4, 0), -1);
        due("32: what", x.heard(-1, 0), -1);
        for (int i = 9; i <= 12; i++) {
            due("32: once more", x.heard(0, 0), i);
        }
        due("32: 12", x.heard(0, 0), -1);
        due("32: how many", x.count(6), 12);
        due("33: forget", x.forget(), 12);
        due("33: nothing", x.forget(), 0);
        due("32: anew", x.heard(0, 0), 1);
    }

    private static void promises34And35() {
        ShadowSpaces x = Check.with("001122", "0099..10");
        Check.told("34: all", x, x.fits(), 4, 0, 0);
        Check.told("35: by halves, the least", x, x.asks(), 0, 2);
        x.heard(1, 0);
        Check.told("34: PAGE 0", x, x.fits(), 2, 0, 0);
        x.heard(2, 2);
        Check.told("34: 20 or more", x, x.fits(), 1, 1, 0);
        Check.told("35: one fits", x, x.asks(), 0, 1);
        x.heard(3, 0);
        Check.told("34: none", x, x.fits(), 0);
        due("35: none", x.asks(), -2);
        due("35: the ROW stays", x.count(9), 0);
        x.forget();
        x.heard(2, 1);
        due("34: 10 is one ten", x.fits(), 4);
        x.heard(2, 2);
        due("34: 22 is two tens", x.fits(), 2);
        x.heard(3, 5);
        due("34: a SPACE that is not there", x.fits(), 0);
        x.forget();
        x.heard(0, 1);
        Check.told("34: of an OBJECT", x, x.fits(), 2, 1, 0);
        x.forget();
        x.forks(0);
        x.writes(0, 0, 1);
        x.heard(3, 0);
        Check.told("34: what is hidden from it", x, x.fits(), 2, 0, 1);
        x.forget();
        x.heard(3, 2);
        Check.told("34: not from the other", x, x.fits(), 2, 0, 0);
        x.heard(3, 0);
        Check.told("34: both", x, x.fits(), 1, 0, 1);
        ShadowSpaces y = Check.with("00", "00", "0011223344");
        Check.told("35: by halves of values", y, y.asks(), 203, 2);
        y.heard(2, 2);
        Check.told("35: three are left", y, y.asks(), 101, 2);
    }

    private static void promises36And37() {
        ShadowSpaces x = new ShadowSpaces();
        due("36: saw", x.saw(0, 0, 0), 1);
        due("36: saw", x.saw(9, 8, 1), 2);
        int[][] wrong = {{10, 0, 0}, {-1, 0, 0}, {0, 9, 0}, {0, -1, 0}, {0, 0, 2}, {0, 0, -1}};
        for (int[] w : wrong) {
            due("36: others", x.saw(w[0], w[1], w[2]), -1);
        }
        for (int i = 3; i <= 10; i++) {
            due("36: once more", x.saw(1, 1, 0), i);
        }
        due("36: 10", x.saw(1, 1, 0), -1);
        due("36: how many", x.count(7), 10);
        due("37: denies", x.denies(), 10);
        due("37: nothing", x.denies(), 0);
        due("36: anew", x.saw(1, 1, 0), 1);
    }

    private static void promises38And39() {
        ShadowSpaces x = new ShadowSpaces();
        Check.told("38: all", x, x.laws(), 49, 0, 0);
        Check.told("39: by halves", x, x.looks(), 45, 25);
        x.saw(4, 3, 1);
        Check.told("38: a below 4, b up to 3", x, x.laws(), 16, 0, 0);
        x.saw(3, 3, 0);
        Check.told("38: a is 3", x, x.laws(), 4, 3, 0);
        x.saw(9, 1, 0);
        Check.told("38: b is 2 or 3", x, x.laws(), 2, 3, 2);
        Check.told("39: the last question", x, x.looks(), 42, 1);
        x.saw(4, 2, 1);
        Check.told("38: one", x, x.laws(), 1, 3, 2);
        Check.told("39: one, whatever is looked at", x, x.looks(), 0, 1);
        x.saw(4, 2, 0);
        Check.told("38: none", x, x.laws(), 0);
        due("39: none", x.looks(), -2);
        due("39: the ROW stays", x.count(9), 0);
        x.denies();
        Check.told("38: all again, though once it was seen", x, x.laws(), 49, 0, 0);
        x.saw(0, 8, 1);
        due("38: no CHAIN has more than a of none", x.laws(), 0);
        x.denies();
        x.saw(9, 8, 0);
        due("38: all are TIDIED", x.laws(), 0);
    }

    private static void promise40() {
        ShadowSpaces x = new ShadowSpaces();
        x.pages(5);
        Check.told("40: none is left", x, x.pages(0), 0);
        long[][] moves = {{1, 0}, {2, 0}, {1, 1}, {2, 1}, {1, 2}, {2, 2}, {1, 1}, {2, 1}};
        for (int n = 1; n <= 8; n++) {
            Check.told("40: " + n, x, x.pages(n), 1, moves[n - 1]);
        }
        for (int n = 9; n <= 60; n++) {
            due("40: the middle is always there to be taken, " + n, x.pages(n), 1);
            due("40: the first move leaves a lost row, " + n, lost((int) x.row(1), n - (int) x.row(0) - (int) x.row(1)) ? 1 : 0, 1);
        }
        due("40: above", x.pages(61), -1);
        due("40: below", x.pages(-1), -1);
        due("40: the ROW stays", x.count(9), 2);
    }

    /** Two rows lose, if they are worth the same by the theory of such games. */
    private static boolean lost(int left, int right) {
        int[] worth = new int[61];
        for (int n = 1; n <= 60; n++) {
            java.util.TreeSet<Integer> reached = new java.util.TreeSet<>();
            for (int i = 0; i < n; i++) {
                for (int j = i + 1; j <= n && j <= i + 3; j++) {
                    reached.add(worth[i] ^ worth[n - j]);
                }
            }
            while (reached.contains(worth[n])) {
                worth[n]++;
            }
        }
        return worth[left] == worth[right];
    }

    private static void promise41() {
        ShadowSpaces x = new ShadowSpaces();
        Check.told("41: nothing", x, x.rests(0), 1, 0, 0);
        Check.told("41: 6", x, x.rests(6), 1, 0, 0);
        for (int v = 0; v <= 20; v++) {
            due("41: " + v, x.rests(v), rests(v));
        }
        due("41: above", x.rests(21), -1);
        due("41: below", x.rests(-1), -1);
        due("41: the ROW stays", x.row(0) + x.row(1), firstRest(20));
    }

    private static int rests(int v) {
        int n = 0;
        for (int x = 0; x <= 9; x++) {
            for (int y = 0; y <= 9; y++) {
                n += isRest(v, x, y) ? 1 : 0;
            }
        }
        return n;
    }

    private static int firstRest(int v) {
        for (int pair = 0; pair < 100; pair++) {
            if (isRest(v, pair / 10, pair % 10)) {
                return pair / 10 + pair % 10;
            }
        }
        return -1;
    }

    private static boolean isRest(int v, int x, int y) {
        for (int z = 0; z <= 9; z++) {
            if (gain(v, z, y) > gain(v, x, y) || gain(v, z, x) > gain(v, y, x)) {
                return false;
            }
        }
        return true;
    }

    private static int gain(int v, int mine, int others) {
        if (mine == others) {
            return v / 3 - mine;
        }
        return mine < others ? v - mine : v / 2 - 2 * (mine - others);
    }

    private static void promise42() {
        ShadowSpaces x = Check.with("0011", "30");
        x.forks(0);
        Check.told("42: the same", x, Check.tell(x, "").law(), 0, 5, 5, 4, 4);
        Check.told("42: a BYPASS spares an OBJECT", x, Check.tell(x, "1").law(), -1, 4, 5, 3, 4);
        x.ends(2);
        deepen(x, 0, 1);
        x.ends(x.forks(0));
        Check.told("42: fewer", x, Check.tell(x, "p=1").law(), -1, 2, 3, 2, 3);
        Check.rule(x, "1");
        Check.told("42: more", x, Check.tell(x, "0").law(), 1, 3, 2, 3, 2);
        Check.told("42: none is n>3", x, Check.tell(x, "").law(), 1, 3, 2, 3, 2);
        due("42: nothing changes", x.count(2), 2);
        due("42: THE RULE stays", x.space(0, 3), 101);
        due("42: not kept", x.count(8), 8);
        due("42: a sign", Check.tell(x, "x").law(), -10000);
        due("42: its end", Check.tell(x, "n+").law(), -10002);
        due("42: THE TEXT is emptied", x.count(10), 0);
        due("42: 40", Check.tell(x, "1+1+1+1+1+1+1+1+1+1+1+1+1+1+1+1+1+1+1+1+1").law(), -10040);
        Check.told("42: the ROW stays", x, 0, 0, 3, 2, 3, 2);
        Check.told("42: no SPACES", new ShadowSpaces(), new ShadowSpaces().law(), 0);
    }

    private static void promise43() {
        ShadowSpaces x = Check.with("0011");
        due("43: 0", x.years(1, 0), -1);
        due("43: 41", x.years(1, 41), -1);
        due("43: below 0", x.years(1, -1), -1);
        due("43: the ROW stays", x.count(9), 0);
        for (int seed = -50; seed <= 50; seed++) {
            for (int n = 1; n <= 40; n += 13) {
                ShadowSpaces lived = Check.with("0011");
                live(lived, seed, n);
                Check.told("43: " + seed, x, x.years(seed, n), lived.count(2), lived.count(1), lived.count(0));
            }
        }
        due("43: nothing changes", x.count(2) * 10 + x.count(8), 11);
    }

    /** The same days by calls of the face, by a generator in longs. */
    private static void live(ShadowSpaces x, int seed, int n) {
        long[] r = {seed & 0xFFFFFFFFL};
        for (int i = 0; i < n; i++) {
            int act = draw(r, 4);
            int space = draw(r, 6);
            if ((x.count(0) >> space & 1) == 0) {
                continue;
            }
            if (act < 2) {
                int page = draw(r, 8);
                x.writes(space, page, draw(r, 100));
            } else if (act == 2) {
                x.forks(space);
            } else if (draw(r, 2) == 0) {
                x.ends(space);
            } else {
                x.tidies(space);
            }
        }
    }

    private static int draw(long[] r, int n) {
        r[0] = r[0] * 1103515245L + 12345L & 0xFFFFFFFFL;
        return (int) (r[0] / 65536 % n);
    }

    private static void promises44And45() {
        ShadowSpaces x = Check.with("0011");
        Check.due("45: nothing kept", x.again(0), false);
        due("45: what can be undone stays", x.count(8), 1);
        Check.due("44: 0", x.keep(0), true);
        x.forks(0);
        x.writes(1, 0, 2);
        Check.due("44: 1", x.keep(1), true);
        Check.due("44: 2", x.keep(2), false);
        Check.due("44: -1", x.keep(-1), false);
        x.ends(0);
        x.ends(1);
        Check.due("45: 0", x.again(0), true);
        due("45: as it was", x.count(0) * 100 + x.count(2) * 10 + x.count(3), 110);
        due("45: it SHARES not", x.space(0, 1), 0);
        due("45: nothing to undo", x.undo(), -1);
        Check.due("45: 1", x.again(1), true);
        due("45: as it was", x.count(0) * 100 + x.count(2) * 10 + x.count(3), 321);
        x.writes(1, 0, 77);
        Check.due("45: once more", x.again(1), true);
        due("45: what is kept stays", x.peeks(1, 0), 2);
        Check.due("45: 2", x.again(2), false);
        Check.due("45: -1", x.again(-1), false);
        Check.rule(x, "55");
        x.heard(0, 0);
        x.again(0);
        due("45: THE RULE stays", x.space(0, 3), 155);
        due("45: what was heard stays", x.count(6), 1);
        x.sheet(2, 1, 9, 0);
        x.keep(0);
        x.sheet(3, 0, 0, 0);
        x.again(0);
        due("45: DIGITS, too", x.object(0, 4), 9);
        x.ends(0);
        x.keep(0);
        Check.due("44: anew", x.again(0), true);
        due("44: anew", x.count(0), 0);
    }

    private static void promises46And47() {
        ShadowSpaces x = Check.with("0011", "20");
        x.forks(0);
        x.writes(2, 1, 1);
        x.reads(1, 4);
        x.reads(1, 5);
        x.heard(0, 0);
        x.saw(0, 0, 0);
        x.saw(0, 0, 0);
        x.sign(0);
        x.chain(2);
        int[] due = {7, 7, 2, 1, 1, 2, 1, 2, 6, 2, 4, -1};
        for (int what = 0; what < due.length; what++) {
            due("46: " + what, x.count(what), due[what]);
        }
        due("46: below", x.count(-1), -1);
        due("46: far", x.count(Integer.MAX_VALUE), -1);
        due("47: row", x.row(0), 2);
        due("47: row", x.row(1), 0);
        int[] wrong = {2, -1, 24, Integer.MAX_VALUE, Integer.MIN_VALUE};
        for (int i : wrong) {
            Check.none("47: " + i, () -> x.row(i));
        }
        Check.none("47: a new object has none", () -> new ShadowSpaces().row(0));
    }
}
