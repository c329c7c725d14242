/** The sentences under "Terms": what there may be, how a SPACE, a RULE are told, what a WRITE, a FORK, a tidying do. */
final class TermEdges {
    private TermEdges() {
    }

    static void all() {
        limits();
        textOfSpaces();
        holders();
        fetches();
        rules();
        values();
        measures();
        writesFirst();
        writesThen();
        forks();
        tidies();
        tidiesCopies();
        rows();
        refusals();
    }

    private static void says(String words) {
        Sentence.term(words);
    }

    private static void due(String what, long got, long due) {
        Sentence.due(what, got, due);
    }

    private static void limits() {
        says("PAGES 0 .. 7.");
        ShadowSpaces x = Build.calm("1011", "20");
        due("the first", x.reads(0, 0), 11);
        due("the last", x.reads(0, 7), 7);
        due("ahead of it", x.reads(0, -1), -1);
        due("behind it", x.reads(0, 8), -1);
        due("far behind it: a shift goes round at 32", x.reads(0, 32), -1);
        says("OBJECTS 0 .. 23, there or not:");
        ShadowSpaces deep = Build.deepen(Build.calm("00"), 0, 23);
        due("24 of them", deep.count(1), 0xFFFFFF);
        due("the last", deep.object(23, 1), 22);
        Sentence.none("a 25th", deep, y -> y.object(24, 0));
        Sentence.none("one that is not there", x, y -> y.object(2, 0));
        says("each PAGE of one is HELD (a value 0 .. 99; that is a FRAME) or not;");
        due("a value of 0 is HELD", x.writes(0, 1, 0) + x.page(0, 1), 1);
        due("99", x.writes(0, 2, 99) + x.page(0, 2), 100);
        due("each a FRAME", x.count(2), 4);
        Sentence.none("not HELD", x, y -> y.page(0, 3));
        says("its SHADOW: an OBJECT, or none;");
        due("none", deep.object(0, 1), 24);
        due("an OBJECT", deep.object(1, 1), 0);
        says("its PAGER 0 .. 3, its DIGIT 0 .. 9 (of one with PAGER 1 .. 3 the SHADOW is none);");
        for (int pager = 0; pager <= 3; pager++) {
            for (int digit = 0; digit <= 9; digit++) {
                ShadowSpaces y = Check.with("" + pager + digit);
                due("PAGER and DIGIT", 10 * y.object(0, 3) + y.object(0, 4), 10 * pager + digit);
                y.forks(0);
                due("no SHADOW", y.object(0, 1), 24);
            }
        }
        due("above 3", Check.tell(x, "40").spaces(), -1);
        due("above 9", Check.tell(x, "0:").spaces(), -2);
        says("its COPY: an OBJECT, or none;");
        due("none", x.object(1, 2), 24);
        due("an OBJECT", x.forks(1) * 10 + x.object(1, 2), 22);
        says("PAGES of it are AWAITED or not.");
        due("not", x.object(1, 6), 0);
        due("one", x.reads(1, 7) + x.object(1, 6), -3 + 128);
        says("There may be 64 FRAMES.");
        ShadowSpaces full = Build.fill(Build.calm("00"), 0, 63);
        due("a 64th", full.writes(0, 7, 1) > 0 ? full.count(2) : -1, 64);
        int other = full.forks(0);
        due("a 65th", full.writes(other, 7, 1), -5);
        due("none came", full.count(2), 64);
        says("SPACES 0 .. 5, there or not:");
        ShadowSpaces six = Build.fork(Build.calm("00"), 0);
        due("six", six.count(0), 63);
        due("a 7th", six.forks(0), -2);
        due("SPACE 5", six.space(5, 0), 0);
        Sentence.none("SPACE 6", six, y -> y.space(6, 0));
        says("each its TOP (an OBJECT), and SHARES or not.");
        due("SHARES", six.space(5, 1), 1);
        six.writes(5, 0, 1);
        due("not, and its TOP", 10 * six.space(5, 0) + six.space(5, 1), 10);
    }

    private static void textOfSpaces() {
        says("What comes is always the least number that is not there.");
        ShadowSpaces x = Check.with("00", "00", "00", "00");
        x.ends(1);
        x.ends(2);
        due("a SPACE told", Check.tell(x, "10").spaces(), 1);
        due("its OBJECT", x.space(1, 0), 1);
        due("a SPACE by a FORK", x.forks(1), 2);
        due("its OBJECT", x.space(2, 0), 2);
        due("behind all that are there", x.forks(3), 4);
        x.ends(0);
        x.writes(4, 0, 1);
        due("an OBJECT by a WRITE", x.space(4, 0), 0);
        says("SPACES are told by a text of 2 to 18 signs:");
        due("one sign", Check.tell(x, "0").spaces(), -2);
        due("two", Check.tell(new ShadowSpaces(), "00").spaces(), 0);
        due("eighteen", Check.tell(new ShadowSpaces(), "000011223344556677").spaces(), 0);
        due("nineteen", Check.tell(new ShadowSpaces(), "0000112233445566770").spaces(), -19);
        says("a digit 0 .. 3 (PAGER), a digit (DIGIT), then for PAGES 0, 1, .. (8 at most) two signs each:");
        ShadowSpaces y = Check.with("3900..2233");
        due("PAGER", y.object(0, 3), 3);
        due("DIGIT", y.object(0, 4), 9);
        due("twenty signs", Check.tell(y, "00001122334455667788").spaces(), -19);
        says("two digits (HELD, that value), or .. (not);");
        due("HELD", y.object(0, 0), 13);
        due("values", y.page(0, 0) * 10000 + y.page(0, 2) * 100 + y.page(0, 3), 2233);
        says("others are not HELD.");
        due("PAGES behind the text", Check.with("0011").object(0, 0), 1);
        due("none at all", Check.with("00").object(0, 0), 0);
        says("The OBJECT, with no SHADOW, is TOP of a SPACE that comes with it and does not SHARE.");
        due("no SHADOW", y.object(0, 1), 24);
        due("no COPY", y.object(0, 2), 24);
        due("TOP", y.space(0, 0), 0);
        due("SHARES not", y.space(0, 1), 0);
    }

    private static void holders() {
        says("HOLDERS of an OBJECT: SPACES whose TOP it is, OBJECTS whose SHADOW it is.");
        ShadowSpaces x = Build.calm("0011");
        due("one SPACE", x.object(0, 5), 1);
        x.forks(0);
        x.forks(0);
        due("three SPACES", x.object(0, 5), 3);
        x.writes(2, 0, 1);
        due("two SPACES and an OBJECT", x.object(0, 5), 3);
        x.ends(1);
        due("a SPACE and an OBJECT", x.object(0, 5), 2);
        ShadowSpaces y = Build.calm("10");
        y.forks(0);
        due("a COPY holds by its SHADOW alone", y.object(0, 5), 2);
        due("who has it as COPY holds it not", y.object(1, 5), 1);
        says("An OBJECT without HOLDERS is FREED: it is there no more (nor its FRAMES), nobody's COPY;");
        y.writes(1, 0, 1);
        due("FRAMES", y.count(2), 2);
        due("FREED", y.ends(1), 1);
        due("it is there no more", y.count(1), 1);
        due("nor its FRAMES", y.count(2), 1);
        due("nobody's COPY", y.object(0, 2), 24);
        ShadowSpaces late = Build.calm("20", "00");
        late.reads(0, 3);
        late.ends(0);
        due("nothing of it is AWAITED", late.count(5), 0);
        Check.tell(late, "20").spaces();
        due("nor of what comes", late.object(0, 6), 0);
        due("what comes has nothing of it", Check.tell(y, "07").spaces(), 1);
        due("HELD, SHADOW, AWAITED", y.object(1, 0) * 10000 + y.object(1, 1) * 100 + y.object(1, 6), 2400);
        says("then others that have none by that likewise.");
        ShadowSpaces z = Build.deepen(Build.calm("0011"), 0, 5);
        due("all of a CHAIN", z.ends(0), 6);
        due("nothing is left", z.count(1) + z.count(2), 0);
        ShadowSpaces w = Build.deepen(Build.calm("0011"), 0, 2);
        w.forks(0);
        w.writes(1, 0, 1);
        due("up to one that another one holds", w.ends(1), 1);
        due("that stays", w.count(1), 7);
        says("THE CHAIN of a SPACE: its TOP, the SHADOW of that, and so on.");
        Sentence.told("from the TOP on", z = Build.deepen(Build.calm("0011"), 0, 3), y2 -> y2.chain(0), 4, 3, 2, 1, 0);
    }

    private static void fetches() {
        says("To FETCH a PAGE for a SPACE: of the first OBJECT of its CHAIN that HOLDS it the value.");
        ShadowSpaces x = Build.calm("00112233", "1755", "20", "30");
        x.forks(0);
        x.writes(0, 1, 44);
        due("its own", x.reads(0, 1), 44);
        due("of its SHADOW", x.reads(0, 2), 33);
        due("the other one's", x.reads(4, 1), 22);
        says("If none does, it is asked of the last one, by its PAGER: 0: 0 (it is not HELD by that);");
        due("0", x.reads(0, 5), 0);
        due("not HELD", x.object(0, 0), 7);
        says("1: 10 times DIGIT, and the PAGE: the last one HOLDS that from then on (a FRAME);");
        int frames = x.count(2);
        due("7 tens and 6", x.reads(1, 6), 76);
        due("HELD", x.page(1, 6), 76);
        due("a FRAME", x.count(2), frames + 1);
        ShadowSpaces nought = Check.with("10");
        due("the least: 0", nought.reads(0, 0), 0);
        due("that is HELD, too", nought.object(0, 0), 1);
        due("the most: 97", Check.with("19").reads(0, 7), 97);
        x.forks(1);
        due("by the last one, not by the TOP", x.reads(5, 2), 72);
        due("the TOP HOLDS nothing", x.object(x.space(5, 0), 0), 0);
        due("the last one does", x.page(1, 2), 72);
        says("2: it is AWAITED from then on, there is none yet;");
        due("none yet", x.reads(2, 4), -3);
        due("AWAITED", x.object(2, 6), 16);
        due("no FRAME", x.object(2, 0), 0);
        due("again", x.reads(2, 4), -3);
        due("AWAITED once", x.count(5), 1);
        says("3: it is refused.");
        due("refused", x.reads(3, 4), -4);
        due("nothing of it", x.object(3, 6) + x.object(3, 0), 0);
    }

    private static int wrongRule(String text) {
        return Check.tell(new ShadowSpaces(), text).rule();
    }

    private static void rules() {
        says("THE RULE is a text of at most 40 signs (at first none: n>3).");
        String forty = "1+1+1+1+1+1+1+1+1+1+1+1+1+1+1+1+1+1+1+10";
        due("40 signs", wrongRule(forty), 0);
        due("41 signs", wrongRule(forty + "0"), -41);
        ShadowSpaces x = Check.with("0011");
        due("n is 1", x.space(0, 3), 100);
        ShadowSpaces many = Check.with("000011223344556677", "00", "00", "00", "00");
        due("n is 1, though there are more OBJECTS, FRAMES, PAGES", many.space(0, 3) + many.space(4, 3), 200);
        Build.deepen(x, 0, 2);
        due("n is 3", x.space(0, 3), 100);
        due("nothing was TIDIED", x.space(0, 2), 3);
        x.ends(x.forks(0));
        x.writes(0, 0, 1);
        x.forks(0);
        due("n is 4: TIDIED", x.writes(0, 1, 1), 2);
        Check.rule(x, "0");
        Build.deepen(x, 0, 2);
        Check.tell(x, "").rule();
        due("n is 4", x.space(0, 3), 101);
        says("EXPRESSION: < > = bind least (two; 1 or 0; not one behind the other),");
        String[] right = {"1<2", "n+1<n*2", "(1<2)<(2<3)", "(1<2)=1", "-1<-2", "1<(2<3)"};
        String[] wrong = {"1<2<3", "1<2=3", "1=2>3", "(1<2<3)", "1<2+3<4", "1<(2)<3", "n=n=n"};
        int[] at = {3, 3, 3, 4, 5, 5, 3};
        for (String text : right) {
            due(text, wrongRule(text), 0);
        }
        for (int i = 0; i < wrong.length; i++) {
            due(wrong[i], wrongRule(wrong[i]), -1 - at[i]);
        }
        due("a second one at its own depth", wrongRule("(1<2)+(3<4)<5"), 0);
        due("and no third", wrongRule("(1<2)+(3<4)<5<6"), -14);
        due("inside of one", wrongRule("(1<2<3)"), -5);
        due("inside of two", wrongRule("((1<2<3))"), -6);
        due("inside of three", wrongRule("(((1<2<3)))"), -7);
        due("inside of four", wrongRule("((((1<2<3))))"), -8);
        due("one at each depth", wrongRule("((((1<2)<3)<4)<5)<6"), 0);
        due("of none it has one", wrongRule("<1"), -1);
        due("of one it has two", wrongRule("1<"), -3);
    }

    private static void reckons(String text, int due) {
        ShadowSpaces x = Check.with("00");
        Check.rule(x, text);
        due(text, x.space(0, 3) - 100, due);
    }

    private static void reckon(Object... pairs) {
        for (int i = 0; i + 1 < pairs.length; i += 2) {
            reckons((String) pairs[i], (Integer) pairs[i + 1]);
        }
    }

    private static void values() {
        reckon("1<2", 1, "2<2", 0, "3<2", 0, "1>2", 0, "2>2", 0, "3>2", 1, "1=2", 0, "2=2", 1, "3=2", 0, "1+1<3", 1, "4-1=3", 1,
            "1+(2<3)", 2, "0-5<0-4", 1, "2*3=6", 1, "1<2+5", 1);
        says("then + - (from the left),");
        reckon("9-3-2", 4, "9-(3-2)", 8, "9-3+2", 8, "9+3-2", 10, "1+2*3", 7, "2*3+1", 7, "9-2*3", 3);
        says("then * / (from the left; by 0: 0; cut to 0),");
        reckon("24/4/2", 3, "24/(4/2)", 12, "24/4*2", 12, "2*24/4", 12, "7*2/4", 3, "7/4*2", 2, "5/0", 0, "0/0", 0, "-5/0", 0,
            "9+5/0", 9, "7/0*3", 0, "7/2", 3, "-7/2", -3, "7/-2", -3, "-7/-2", 3, "(0-7)/2", -3, "1/2", 0, "-1/2", 0);
        says("then - ahead of a thing (any many);");
        reckon("-5", -5, "--5", 5, "---5", -5, "----------------------5", 5, "-2*3", -6, "2*-3", -6, "2--3", 5, "2---3", -1,
            "2+-3", -1, "-(1+2)", -3, "-2+3", 1, "-n", -1, "--(1<2)", 1, "6/-3", -2, "6/-3*2", -4, "2*-7/2", -7,
            "7--3*2", 13, "-7/2*2", -6, "-1<0", 1, "0>-1", 1);
        due("39 of them", wrongRule("-".repeat(39) + "n"), 0);
        due("of no thing", wrongRule("-"), -2);
        due("nor of another sign", wrongRule("-+1"), -2);
        says("things: a NUMBER of 1 to 3 digits, an EXPRESSION in ( ) (at most 4 in one another),");
        reckon("7", 7, "42", 42, "100-90", 10, "999-990", 9, "007", 7, "000", 0, "(5)", 5, "((((5))))", 5, "((((1))+(2)))", 3);
        due("four digits", wrongRule("1000"), -4);
        due("four digits of 0", wrongRule("0000"), -4);
        due("behind a sign three again", wrongRule("999+999+999"), 0);
        due("five in one another", wrongRule("(((((1)))))"), -5);
        due("four, and four again", wrongRule("((((1))))+((((2))))"), 0);
        due("a fifth behind a closed one", wrongRule("((((1)+(2))))"), 0);
        due("a fifth inside", wrongRule("((((1)+((2)))))"), -9);
        due("nothing in it", wrongRule("()"), -2);
        due("it is not closed", wrongRule("(1"), -3);
        due("it is closed twice", wrongRule("(1))"), -4);
        due("two things side by side", wrongRule("(1)(2)"), -4);
        due("two things side by side", wrongRule("n2"), -2);
        due("two things side by side", wrongRule("2n"), -2);
        due("no such thing", wrongRule("m"), -1);
    }

    private static void measures() {
        says("and, of a SPACE: n OBJECTS of its CHAIN,");
        ShadowSpaces x = Build.calm("00112233", "1055", "00");
        Build.deepen(x, 0, 2);
        of(x, "n", 3, 1, 1);
        says("f FRAMES in all,");
        of(x, "f", 6, 6, 6);
        says("o OBJECTS that are there,");
        of(x, "o", 5, 5, 5);
        says("s its number,");
        of(x, "s", 0, 1, 2);
        says("p the PAGE that was written,");
        Check.rule(x, "p=3");
        x.forks(0);
        due("another PAGE", x.writes(0, 2, 1), 4);
        due("that PAGE, which it HOLDS not", x.writes(0, 3, 1), 2);
        says("w WRITES by 7 (rest),");
        ShadowSpaces y = Build.ruled("w", "00");
        for (int i = 0; i <= 15; i++) {
            due(i + " WRITES", y.space(0, 3), 100 + i % 7);
            y.writes(0, 0, i);
        }
        says("t PAGES that its TOP HOLDS.");
        of(x, "t", 2, 1, 0);
        ShadowSpaces all = Build.ruled("t", "000011223344556677");
        due("all 8", all.space(0, 3), 108);
        all.forks(0);
        all.writes(1, 7, 1);
        due("of the TOP alone", all.space(1, 3), 101);
        says("All of it is reckoned as ints, which go round.");
        reckon("512*512*512*16<0", 1, "512*512*512*16/-1<0", 1, "-(512*512*512*16)<0", 1, "512*512*512*16-1>0", 1,
            "512*512*512*32", 0, "999*999*999*3<0", 1, "999*999*999*3", -99, "0-512*512*512*16<0", 1,
            "512*512*512*8+512*512*512*8<0", 1);
    }

    private static void of(ShadowSpaces x, String rule, int... due) {
        Check.rule(x, rule);
        for (int s = 0; s < due.length; s++) {
            due(rule + " of SPACE " + s, x.space(s, 3), 100 + due[s]);
        }
    }

    private static void writesFirst() {
        says("A WRITE of a PAGE, a value, in a SPACE: (1) if its TOP HOLDS the PAGE not, it is FETCHED"
            + " (as above; if there is none yet, or it is refused, all ends there).");
        ShadowSpaces x = Build.calm("17", "20", "30");
        due("FETCHED, so HELD right ahead of (4)", x.writes(0, 2, 5), 1);
        due("one FRAME for both", x.count(2), 1);
        x.forks(0);
        x.writes(3, 4, 6);
        due("FETCHED into the last one", x.page(0, 4), 74);
        due("written into the TOP", x.page(x.space(3, 0), 4), 6);
        due("none yet", x.writes(1, 3, 5), -3);
        due("AWAITED", x.object(1, 6), 8);
        due("HELD not", x.object(1, 0), 0);
        due("refused", x.writes(2, 3, 5), -4);
        due("no WRITES", x.count(3), 2);
        ShadowSpaces late = Build.calm("20");
        late.forks(0);
        late.forks(1);
        due("all ends there", late.writes(1, 3, 5), -3);
        due("no OBJECT came", late.count(1), 3);
        due("it SHARES still", late.space(1, 1), 1);
        due("it is not the TOP's, but the last one's", late.object(0, 6), 8);
        says("(2) If the SPACE SHARES: if it is the only HOLDER of its TOP, it SHARES no more;");
        ShadowSpaces y = Build.calm("001122");
        y.forks(0);
        y.ends(0);
        due("it SHARES, alone", y.space(1, 1), 1);
        due("no OBJECT comes", y.writes(1, 0, 5), 1);
        due("SHARES no more", y.space(1, 1), 0);
        due("TOP", y.space(1, 0), 0);
        says("else an OBJECT comes (PAGER 0, DIGIT 0, no PAGE HELD) whose SHADOW is the TOP: that is its TOP then, it SHARES no more.");
        ShadowSpaces z = Build.calm("071122");
        z.forks(0);
        due("an OBJECT comes", z.writes(0, 1, 5), 2);
        due("TOP", z.space(0, 0), 1);
        due("PAGER, DIGIT", z.object(1, 3) * 10 + z.object(1, 4), 0);
        due("the PAGE alone", z.object(1, 0), 2);
        due("SHADOW", z.object(1, 1), 0);
        due("SHARES no more", z.space(0, 1), 0);
        due("the other one does", z.space(1, 1), 1);
        due("an OBJECT is a HOLDER, too", z.writes(1, 0, 5), 2);
        due("so another one came", z.space(1, 0), 2);
        due("it SHARES not: none comes", z.writes(0, 0, 5), 2);
        due("three are there", z.count(1), 7);
    }

    private static void writesThen() {
        says("(3) If its TOP (as it is then) has a COPY that does not HOLD the PAGE:"
            + " that HOLDS the value that the TOP HOLDS now (a FRAME).");
        ShadowSpaces x = Build.calm("174255");
        x.forks(0);
        due("a FRAME more", x.writes(0, 0, 9) * 100 + x.count(2), 103);
        due("what it had", x.page(1, 0), 42);
        x.writes(0, 0, 8);
        due("the COPY HOLDS it: nothing is pushed", x.page(1, 0) * 100 + x.count(2), 4203);
        x.writes(1, 1, 7);
        x.writes(0, 1, 6);
        due("written by the COPY itself", x.page(1, 1), 7);
        x.writes(0, 5, 4);
        due("what was FETCHED for it", x.page(1, 5), 75);
        x.forks(1);
        x.writes(1, 2, 3);
        due("a TOP that came has no COPY", x.object(x.space(1, 0), 2), 24);
        due("the COPY below got nothing", x.object(1, 0), 35);
        due("nor the one that the PAGER is of", x.page(0, 2), 72);
        says("(4) its TOP HOLDS the value that is written. WRITES are 1 more.");
        ShadowSpaces y = Build.calm("0011", "20", "30");
        y.writes(0, 0, 0);
        due("HELD, another value", y.page(0, 0) * 10 + y.count(3), 1);
        y.writes(0, 7, 99);
        due("not HELD", y.page(0, 7) * 10 + y.count(3), 992);
        y.writes(0, 7, 99);
        due("the same value", y.count(3), 3);
        y.writes(1, 0, 1);
        y.writes(2, 0, 1);
        y.writes(0, 8, 1);
        due("no WRITE of those that ended", y.count(3), 3);
        says("(5) if the TOP HELD the PAGE not right ahead of (4), and THE RULE (as all is then) is above 0: its CHAIN is TIDIED.");
        due("HELD right ahead", tidiesBy("1", 0), 3);
        due("HELD not", tidiesBy("1", 1), 1);
        due("0", tidiesBy("0", 1), 3);
        due("below 0", tidiesBy("-1", 1), 3);
        due("far above", tidiesBy("999", 1), 1);
        due("t behind the WRITE", tidiesBy("t=2", 1), 1);
        due("t ahead of it", tidiesBy("t=1", 1), 3);
        due("f behind it", tidiesBy("f=3", 1), 1);
        due("f ahead of it", tidiesBy("f=2", 1), 3);
        due("w behind it", tidiesBy("w=4", 1), 1);
        due("w ahead of it", tidiesBy("w=3", 1), 3);
        due("its own number", tidiesBy("s=0", 1), 1);
        due("the PAGE", tidiesBy("p=1", 1), 1);
        ShadowSpaces z = Build.deepen(Build.calm("001122"), 0, 1);
        z.forks(0);
        Check.rule(z, "n=3");
        due("n with what came by (2): HELD not by that", z.writes(0, 0, 5), 2);
        ShadowSpaces w = Build.calm("1011");
        w.forks(0);
        w.forks(0);
        w.ends(2);
        Check.rule(w, "1");
        due("FETCHED by the TOP itself: HELD right ahead", w.writes(0, 3, 1), 1);
        due("its COPY's CHAIN is not its own", w.space(1, 2), 3);
        due("FETCHED below it: HELD not", w.writes(1, 4, 1), 2);
    }

    /** A CHAIN of three with two FRAMES, of which the TOP HOLDS PAGE 0, behind three WRITES: OBJECTS of it behind one more. */
    private static int tidiesBy(String rule, int page) {
        ShadowSpaces x = Build.deepen(Build.calm("00"), 0, 2);
        x.ends(x.forks(0));
        x.writes(0, 0, 3);
        Check.rule(x, rule);
        return x.writes(0, page, 5);
    }

    private static void forks() {
        says("A FORK of a SPACE: another one comes. If PAGER of its TOP is 0: that is the other one's TOP, too,"
            + " both SHARE from then on.");
        ShadowSpaces x = Build.calm("0011", "1722");
        due("another one", x.forks(0), 2);
        due("TOP", x.space(2, 0), 0);
        due("both SHARE", x.space(0, 1) + x.space(2, 1), 2);
        due("no OBJECT came", x.count(1), 3);
        says("Else an OBJECT comes (PAGER 0, DIGIT 0, none HELD) whose SHADOW is the TOP;");
        due("another one", x.forks(1), 3);
        due("PAGER, DIGIT, HELD", x.object(2, 3) + x.object(2, 4) + x.object(2, 0), 0);
        due("SHADOW", x.object(2, 1), 1);
        says("if the TOP had a COPY, SHADOW of that is the new OBJECT from then on;");
        due("another one", x.forks(1), 4);
        due("SHADOW of the older COPY", x.object(2, 1), 3);
        due("SHADOW of the new one", x.object(3, 1), 1);
        due("HOLDERS of the TOP", x.object(1, 5), 2);
        says("COPY of the TOP is the new one;");
        due("COPY", x.object(1, 2), 3);
        due("of the COPY none", x.object(3, 2), 24);
        ShadowSpaces back = Build.calm("0011", "0022", "10");
        back.ends(0);
        due("SPACE 0 comes", back.forks(1), 0);
        due("both SHARE", back.space(0, 1) + back.space(1, 1), 2);
        back.ends(0);
        due("SPACE 0 comes", back.forks(2), 0);
        due("it SHARES", back.space(0, 1) * 10 + back.space(2, 1), 10);
        says("that is TOP of the other SPACE, which SHARES.");
        due("TOP", x.space(4, 0), 3);
        due("SHARES", x.space(4, 1), 1);
        due("the first one not", x.space(1, 1), 0);
        for (String pager : new String[] {"20", "30"}) {
            ShadowSpaces y = Check.with(pager);
            y.forks(0);
            due("each PAGER above 0", y.object(0, 2) * 10 + y.space(0, 1), 10);
        }
    }

    private static void tidies() {
        says("A CHAIN is TIDIED: X is its TOP; again and again: Y is SHADOW of X (none: it ends).");
        Sentence.told("no SHADOW", Build.calm("00"), x -> x.tidies(0), 0, 0, 0, 1);
        Sentence.told("again and again", Build.deepen(Build.calm("00"), 0, 23), x -> x.tidies(0), 23, 23, 0, 1);
        says("If X HOLDS all PAGES: its SHADOW is none from then on (a BYPASS).");
        String all = "w0000w0101w0202w0303w0404w0505w0606w0707";
        ShadowSpaces x = Build.calm("1011");
        x.forks(0);
        x.ends(0);
        Check.tell(x, all.replace("w0", "w1")).day();
        Sentence.told("ahead of what the PAGER is", x, y -> y.tidies(1), 1, 0, 1, 1);
        due("no SHADOW", x.object(1, 1), 24);
        due("Y has no HOLDERS: FREED", x.count(1), 2);
        ShadowSpaces only = Build.deepen(Build.calm("0011"), 0, 1);
        Check.tell(only, all).day();
        Sentence.told("ahead of a COLLAPSE", only, y -> y.tidies(0), 1, 0, 1, 1);
        ShadowSpaces deep = Build.deepen(Build.calm("0011"), 0, 4);
        Check.tell(deep, all).day();
        Sentence.told("all that is below", deep, y -> y.tidies(0), 1, 0, 1, 1);
        due("is FREED", deep.count(1), 16);
        ShadowSpaces seven = Build.deepen(Build.calm("0011"), 0, 1);
        Check.tell(seven, all.substring(0, 35)).day();
        Sentence.told("seven are not all", seven, y -> y.tidies(0), 1, 1, 0, 1);
        says("Else, if X is the only HOLDER of Y and PAGER of Y is 0: X HOLDS what Y does of PAGES that X does not;"
            + " SHADOW of X is that of Y; who had Y as its COPY has X; Y is FREED (a COLLAPSE).");
        ShadowSpaces c = Build.calm("00112233");
        c.forks(0);
        c.writes(0, 1, 9);
        Sentence.told("another HOLDER", c, y -> y.tidies(0), 0, 0, 0, 2);
        c.ends(1);
        Sentence.told("the only one", c, y -> y.tidies(0), 1, 1, 0, 1);
        due("its own PAGE, and the others", c.page(1, 0) * 10000 + c.page(1, 1) * 100 + c.page(1, 2), 110933);
        due("FREED", c.count(1) * 10 + c.count(2), 23);
        due("SHADOW", c.object(1, 1), 24);
        ShadowSpaces p = Build.calm("1011");
        p.forks(0);
        p.ends(0);
        Sentence.told("PAGER of Y is not 0", p, y -> y.tidies(1), 0, 0, 0, 2);
        ShadowSpaces cover = Build.deepen(Build.calm("0011"), 0, 1);
        Sentence.told("ahead of a BYPASS", cover, y -> y.tidies(0), 1, 1, 0, 1);
        says("Else, if PAGER of Y is 0, Y is nobody's COPY, and each PAGE that Y HOLDS X does: SHADOW of X is that of Y (a BYPASS).");
        ShadowSpaces b = Build.calm("0011..22");
        b.forks(0);
        b.writes(0, 0, 5);
        Sentence.told("not each", b, y -> y.tidies(0), 0, 0, 0, 2);
        b.writes(0, 2, 5);
        Sentence.told("each", b, y -> y.tidies(0), 1, 0, 1, 1);
        due("Y stays", b.object(0, 5), 1);
        ShadowSpaces empty = Build.calm("00");
        empty.forks(0);
        empty.writes(0, 0, 5);
        Sentence.told("Y HOLDS none", empty, y -> y.tidies(0), 1, 0, 1, 1);
        ShadowSpaces below = Build.calm("0011");
        below.forks(0);
        below.writes(0, 1, 5);
        below.forks(0);
        below.writes(0, 1, 6);
        Sentence.told("to what is below Y", below, y -> y.tidies(0), 1, 0, 1, 2);
        due("SHADOW of X", below.object(below.space(0, 0), 1), 0);
        due("a HOLDER more", below.object(0, 5), 3);
    }

    private static void tidiesCopies() {
        ShadowSpaces y = Build.calm("10");
        y.forks(0);
        y.forks(1);
        y.writes(1, 0, 4);
        Sentence.told("somebody's COPY", y, z -> z.tidies(1), 0, 0, 0, 3);
        y.writes(0, 0, 5);
        Sentence.told("that HOLDS what X does", y, z -> z.tidies(1), 0, 0, 0, 3);
        says("Else X is Y from then on.");
        ShadowSpaces x = Build.deepen(Build.calm("0011"), 0, 2);
        x.forks(0);
        x.writes(0, 1, 5);
        Sentence.told("what is below is TIDIED", x, z -> z.tidies(0), 2, 2, 0, 2);
        due("for the other one, too", x.space(1, 2), 1);
        says("(When SHADOW of an OBJECT becomes none by a BYPASS, it is nobody's COPY any more.)");
        ShadowSpaces c = Build.calm("1011");
        c.forks(0);
        Check.tell(c, "w1000w1101w1202w1303w1404w1505w1606w1707").day();
        due("COPY", c.object(0, 2), 1);
        c.tidies(1);
        due("nobody's", c.object(0, 2), 24);
        int frames = c.count(2);
        c.writes(0, 0, 3);
        due("nothing is pushed", c.count(2), frames);
        ShadowSpaces e = Build.calm("10");
        e.forks(0);
        e.forks(0);
        e.ends(2);
        e.tidies(1);
        due("by a COLLAPSE it is the COPY", e.object(0, 2), 1);
        due("its SHADOW is that of Y", e.object(1, 1), 0);
    }

    private static void rows() {
        says("ROW: numbers told last by a call that says so.");
        ShadowSpaces x = Build.calm("0011", "00");
        Sentence.told("one call", x, y -> y.frames(), 1, 1, 2);
        Sentence.told("another one", x, y -> y.chain(1), 1, 1);
        Sentence.told("one that tells nothing", x, y -> y.hidden(), 0);
        says("Rows of numbers are compared from the first on.");
        ShadowSpaces y = Check.with("00....30", "0011");
        Sentence.told("the less OBJECT ahead of the less PAGE", y, z -> z.fits(), 2, 0, 2);
        Sentence.told("the less a ahead of the less b", lawsOf(), z -> z.laws(), 6, 0, 1);
        Sentence.told("fewer taken ahead of fewer to the left", y, z -> z.pages(3), 1, 1, 1);
        says("Sets (of PAGES, SPACES, OBJECTS) are bits.");
        due("PAGES", Check.with("0011..22").object(0, 0), 5);
        due("SPACES", x.count(0), 3);
        due("OBJECTS", x.count(1), 3);
        says("Fractions are told in lowest terms, upper and lower number (0 by 1).");
        Sentence.told("lowest terms", x, z -> z.odds(1, 5, 0), 0, 1, 256);
        Sentence.told("0 by 1", x, z -> z.odds(1, 10, 7), 0, 0, 1);
        Sentence.told("1 by 1", x, z -> z.odds(1, 10, 8), 0, 1, 1);
        says("Questions change nothing (nothing is asked of a PAGER by them).");
        Sentence.question("peeks", TermEdges::asked, z -> z.peeks(0, 3), 73, 1);
        Sentence.refused("peeks at a late one", TermEdges::asked, z -> z.peeks(1, 3), -3);
        Sentence.question("differ", TermEdges::asked, z -> z.differ(0, 3), 0, 0);
        Sentence.question("shared", TermEdges::asked, z -> z.shared(0, 3), 1, 1);
        Sentence.question("storm", TermEdges::asked, z -> z.storm(0, 2), 4, 8, 6);
        Sentence.question("sweep of a late one", TermEdges::asked, z -> z.sweep(1, 5), 1, 2, 8);
        Sentence.question("sweep", TermEdges::asked, z -> z.sweep(0, 5), 1, 17, 0);
        Sentence.question("would", TermEdges::asked, z -> z.would(3), 0, 0, 0, 2, 2);
        Sentence.question("frees", TermEdges::asked, z -> z.frees(0), 2, 1);
        Sentence.question("years", TermEdges::asked, z -> z.years(0, 1), 3, 15, 15);
    }

    private static ShadowSpaces lawsOf() {
        ShadowSpaces x = new ShadowSpaces();
        x.saw(1, 6, 1);
        x.saw(9, 0, 0);
        return x;
    }

    private static ShadowSpaces asked() {
        ShadowSpaces x = Build.calm("1711", "20", "0022");
        x.forks(0);
        Check.tell(x, "n>1").rule();
        x.odds(1, 5, 1);
        return x;
    }

    private static void refusals() {
        says("Refused calls answer NONE, or false, and change nothing but THE TEXT, which a call that can read it empties,"
            + " whatever it answers.");
        Sentence.refused("NONE", TermEdges::asked, x -> x.heard(4, 0), ShadowSpaces.NONE);
        Sentence.refused("false", TermEdges::asked, x -> Sentence.bit(x.keep(2)), 0);
        Sentence.refused("spaces", TermEdges::asked, "4", x -> x.spaces(), -1);
        Sentence.refused("rule", TermEdges::asked, "x", x -> x.rule(), -1);
        Sentence.refused("day", TermEdges::asked, "x", x -> x.day(), -1);
        Sentence.refused("law", TermEdges::asked, "x", x -> x.law(), -10000);
        ShadowSpaces x = Check.with("00");
        due("spaces that is done", Check.tell(x, "00").spaces() * 100 + x.count(10), 100);
        due("rule that is done", Check.tell(x, "1").rule() + x.count(10), 0);
        due("day that is done", Check.tell(x, "f0").day() * 100 + x.count(10), 100);
        due("law that is answered", Check.tell(x, "0").law() + x.count(10), 0);
        x.sign(0x30303030);
        x.forks(0);
        x.heard(4, 0);
        x.space(0, 3);
        due("others leave it", x.count(10), 4);
        says("NONE comes ahead of other answers below 0, if not said otherwise;");
        ShadowSpaces y = Build.fork(Build.fill(Build.calm("20", "30", "0011"), 2, 64), 2);
        due("reads, ahead of -3", y.reads(0, 8), -1);
        due("writes, ahead of -3", y.writes(0, 0, 100), -1);
        due("writes, ahead of -4", y.writes(1, 0, -1), -1);
        due("forks, ahead of -2", y.forks(6), -1);
        due("arrives, ahead of -2", y.arrives(0, 0, 100), -1);
        due("peeks, ahead of -4", y.peeks(1, 8), -1);
        due("common, ahead of -2", y.common(0, 0), -1);
        due("sheet, ahead of -2", y.sheet(4, -1, 0, 0), -1);
        says("the ROW stays with each answer that tells of a refusal or that there is none, and with calls that do not tell of it.");
        stays();
        says("\"Nothing without\" is: it has no numbers then.");
        ShadowSpaces z = Check.with("00");
        z.frames();
        Sentence.told("hidden", z, w -> w.hidden(), 0);
        z.frames();
        Sentence.told("fits", z, w -> w.fits(), 0);
        z.frames();
        z.saw(0, 8, 1);
        Sentence.told("laws", z, w -> w.laws(), 0);
        z.frames();
        Sentence.told("pages", z, w -> w.pages(0), 0);
    }

    private static void stays() {
        Sentence.refused("common: there is none", TermEdges::asked, x -> x.common(0, 1), -2);
        Sentence.refused("asks: none fits", TermEdges::unfit, x -> x.asks(), -2);
        Sentence.refused("looks: none fits", TermEdges::unfit, x -> x.looks(), -2);
        Sentence.refused("deepest: none there", ShadowSpaces::new, x -> x.deepest(), -2);
        Sentence.leavesRow("sign", TermEdges::asked, x -> x.sign(0));
        Sentence.leavesRow("end", TermEdges::asked, x -> Sentence.bit(x.end(0)));
        Sentence.leavesRow("spaces", () -> Check.tell(asked(), "00"), x -> x.spaces());
        Sentence.leavesRow("rule", TermEdges::asked, x -> x.rule());
        Sentence.leavesRow("space", TermEdges::asked, x -> x.space(0, 3));
        Sentence.leavesRow("object", TermEdges::asked, x -> x.object(0, 5));
        Sentence.leavesRow("page", TermEdges::asked, x -> x.page(0, 0));
        Sentence.leavesRow("sheet", TermEdges::asked, x -> x.sheet(0, 2, 1, 1));
        Sentence.leavesRow("forks", TermEdges::asked, x -> x.forks(0));
        Sentence.leavesRow("ends", TermEdges::asked, x -> x.ends(0));
        Sentence.leavesRow("arrives", TermEdges::awaited, x -> x.arrives(1, 3, 5));
        Sentence.leavesRow("undo", TermEdges::asked, x -> x.undo());
        Sentence.leavesRow("heard", TermEdges::asked, x -> x.heard(0, 0));
        Sentence.leavesRow("forget", TermEdges::asked, x -> x.forget());
        Sentence.leavesRow("saw", TermEdges::asked, x -> x.saw(0, 0, 0));
        Sentence.leavesRow("denies", TermEdges::asked, x -> x.denies());
        Sentence.leavesRow("keep", TermEdges::asked, x -> Sentence.bit(x.keep(0)));
        Sentence.leavesRow("again", TermEdges::kept, x -> Sentence.bit(x.again(0)));
        Sentence.leavesRow("count", TermEdges::asked, x -> x.count(0));
        Sentence.leavesRow("row", TermEdges::asked, x -> x.row(0));
    }

    private static ShadowSpaces unfit() {
        ShadowSpaces x = asked();
        x.heard(3, 5);
        x.saw(0, 8, 1);
        return x;
    }

    private static ShadowSpaces awaited() {
        ShadowSpaces x = asked();
        x.reads(1, 3);
        return x;
    }

    private static ShadowSpaces kept() {
        ShadowSpaces x = asked();
        x.keep(0);
        return x;
    }
}
