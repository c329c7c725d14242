import java.io.IOException;
import java.nio.charset.StandardCharsets;
import java.nio.file.Files;
import java.nio.file.Path;
import java.util.ArrayList;
import java.util.Arrays;
import java.util.BitSet;
import java.util.List;
import java.util.Map;
import java.util.NoSuchElementException;
import java.util.TreeMap;

/**
 * Sentences of DOC.md, quoted word by word, with the checks that stand behind each. A quote that the document has not,
 * a quote without a check, and a part of a promise that is never quoted are faults of the tests.
 */
final class Sentence {
    /** Of what is free, and of what stands there for readers alone, nothing is checked. */
    private static final String[] UNCHECKED = {"Ahead of the calls", "```text", "```"};

    interface Call {
        long of(ShadowSpaces x);
    }

    interface Made {
        ShadowSpaces make();
    }

    private static final Map<String, String> TEXTS = new TreeMap<>();
    private static final Map<String, BitSet> QUOTED = new TreeMap<>();
    private static String label = "";
    private static int behindIt = 1;
    private static int sentences = 0;

    private Sentence() {
    }

    // ---- what is quoted

    static void read(Path document) throws IOException {
        String all = Files.readString(document, StandardCharsets.UTF_8);
        for (String part : all.split("\n## ")) {
            String heading = part.substring(0, part.indexOf('\n'));
            String name = heading.replaceAll(":.*", "");
            String text = part.substring(part.indexOf('\n'));
            if (name.startsWith("Promise")) {
                text = text.replaceFirst("(?s)^\\s*`.*?`:", "");
            }
            if (name.startsWith("Promise") || name.equals("Terms")) {
                TEXTS.put(name, shortened(text));
                QUOTED.put(name, new BitSet());
            }
        }
    }

    private static String shortened(String text) {
        StringBuilder kept = new StringBuilder();
        for (String line : text.split("\n")) {
            boolean unchecked = false;
            for (String start : UNCHECKED) {
                unchecked |= line.startsWith(start);
            }
            kept.append(unchecked ? "" : line.replaceFirst("^[12]\\. ", "")).append('\n');
        }
        return kept.toString().replaceAll("\\s+", " ").trim();
    }

    /** The checks from here on are of these words of a promise. */
    static void says(int promise, String words) {
        quote("Promise " + promise, words);
    }

    static void term(String words) {
        quote("Terms", words);
    }

    private static void quote(String name, String words) {
        close();
        label = name + " [" + words + "] ";
        sentences++;
        String text = TEXTS.get(name);
        int at = text == null ? -1 : text.indexOf(words);
        while (at >= 0 && QUOTED.get(name).get(at)) {
            at = text.indexOf(words, at + 1);
        }
        Check.due(label + "stands in the document", at >= 0, true);
        if (at >= 0) {
            QUOTED.get(name).set(at, at + words.length());
        }
    }

    private static void close() {
        Check.due(label + "has a check", behindIt > 0, true);
        behindIt = 0;
    }

    static void finish() {
        close();
        for (Map.Entry<String, String> e : TEXTS.entrySet()) {
            Check.due(e.getKey() + ", what is not quoted", unquoted(e.getKey(), e.getValue()), "");
        }
        System.out.println(sentences + " sentences and parts of such");
    }

    private static String unquoted(String name, String text) {
        StringBuilder left = new StringBuilder();
        for (int i = 0; i < text.length(); i++) {
            left.append(QUOTED.get(name).get(i) ? '\u00a0' : text.charAt(i));
        }
        return left.toString().replaceAll("[^\u00a0\\w<>=*/+-]", "\u00a0").replaceAll("\u00a0+", " ").trim();
    }

    // ---- checks

    static void due(String what, Object got, Object due) {
        behindIt++;
        Check.due(label + what, got, due);
    }

    static void due(String what, long got, long due) {
        due(what, (Object) got, (Object) due);
    }

    static void row(String what, ShadowSpaces x, long... row) {
        due(what + ", the ROW", Check.row(x).toString(), Arrays.toString(row));
    }

    /** The answer and the ROW behind it. */
    static void told(String what, ShadowSpaces x, Call call, long due, long... row) {
        due(what, call.of(x), due);
        row(what, x, row);
    }

    static void none(String what, ShadowSpaces x, Call call) {
        behindIt++;
        Check.none(label + what, () -> call.of(x));
    }

    static long bit(boolean is) {
        return is ? 1 : 0;
    }

    /** Two objects made alike, of which one alone takes the call: they stay alike in all that can be seen. */
    static void refused(String what, Made made, Call call, long due) {
        ShadowSpaces one = told(made);
        due(what, call.of(one), due);
        alike(what, one, told(made), true, true);
    }

    /** As refused(), of a call that reads THE TEXT and empties it. */
    static void refused(String what, Made made, String text, Call call, long due) {
        ShadowSpaces one = Check.tell(told(made), text);
        due(what, call.of(one), due);
        due(what + ", THE TEXT is empty", one.count(10), 0);
        alike(what, one, Check.tell(told(made), text), true, false);
    }

    /** All but the ROW stays. */
    static void question(String what, Made made, Call call, long due, long... row) {
        ShadowSpaces one = told(made);
        due(what, call.of(one), due);
        row(what, one, row);
        alike(what, one, told(made), false, true);
    }

    /** A call that is done and does not tell of the ROW. */
    static void leavesRow(String what, Made made, Call call) {
        ShadowSpaces one = told(made);
        List<Long> before = Check.row(one);
        due(what + " is done", call.of(one) >= 0, true);
        due(what + ", the ROW stays", Check.row(one), before);
    }

    /** With a ROW that no other call tells by chance. */
    private static ShadowSpaces told(Made made) {
        ShadowSpaces x = made.make();
        x.odds(Integer.numberOfTrailingZeros(x.count(0)), 7, 0);
        if (x.count(9) == 0) {
            x.rests(20);
        }
        return x;
    }

    private static void alike(String what, ShadowSpaces one, ShadowSpaces other, boolean row, boolean text) {
        due(what + ", all stays", picture(one, row, text), picture(other, row, text));
        due(what + ", also what can be undone", undone(one), undone(other));
    }

    /** All that can be seen without a change, by as few calls as can be. */
    static String picture(ShadowSpaces x, boolean row, boolean text) {
        List<String> all = new ArrayList<>();
        for (int what = 0; what <= (text ? 10 : 8); what++) {
            if (row || what != 9) {
                all.add("count " + what + " " + x.count(what));
            }
        }
        if (row) {
            all.add("row " + Check.row(x));
        }
        int spaces = x.count(0);
        for (int s = 0; s < 6; s++) {
            if ((spaces >> s & 1) == 1) {
                all.add("space " + s + " " + x.space(s, 0) + " " + x.space(s, 1) + " " + x.space(s, 3));
            }
        }
        int objects = x.count(1);
        for (int o = 0; o < 24; o++) {
            if ((objects >> o & 1) == 1) {
                all.add("object " + o + " " + objectOf(x, o));
            }
        }
        return String.join("\n", all);
    }

    private static String objectOf(ShadowSpaces x, int o) {
        StringBuilder b = new StringBuilder();
        int held = x.object(o, 0);
        b.append(held).append(' ');
        for (int what = 1; what <= 6; what++) {
            b.append(x.object(o, what)).append(' ');
        }
        for (int page = 0; page < 8; page++) {
            b.append((held >> page & 1) == 1 ? "" + x.page(o, page) : ".").append(' ');
        }
        return b.toString();
    }

    private static String undone(ShadowSpaces x) {
        StringBuilder b = new StringBuilder();
        for (int i = 0; i < 9; i++) {
            b.append(x.undo()).append(':');
            for (int what = 0; what <= 5; what++) {
                b.append(x.count(what)).append(' ');
            }
        }
        return b.toString();
    }

    static boolean throwsNothing(ShadowSpaces x, Call call) {
        try {
            call.of(x);
            return true;
        } catch (NoSuchElementException e) {
            return false;
        }
    }
}
