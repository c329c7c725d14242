import java.util.ArrayList;
import java.util.Arrays;
import java.util.List;
import java.util.NoSuchElementException;

/** What the tests share: answers that are due, texts told sign by sign, the ROW as a list. */
final class Check {
    private static int wrong = 0;
    private static int checks = 0;

    private Check() {
    }

    static void due(String what, Object got, Object due) {
        checks++;
        if (!due.equals(got)) {
            wrong++;
            System.out.println(what + ": answered " + got + ", due is " + due);
        }
    }

    /** Of a call that may throw. */
    interface Call {
        long answer();
    }

    static void none(String what, Call call) {
        String got;
        try {
            got = "" + call.answer();
        } catch (NoSuchElementException e) {
            got = e.getClass() == NoSuchElementException.class ? "throws" : e.getClass().getName();
        }
        due(what, got, "throws");
    }

    /** THE TEXT is that one then, whatever it was. */
    static ShadowSpaces tell(ShadowSpaces x, String text) {
        x.end(0);
        for (int at = 0; at < text.length(); at += 4) {
            int four = 0;
            for (int i = at; i < at + 4; i++) {
                four = four << 8 | (i < text.length() ? text.charAt(i) & 255 : 0);
            }
            x.sign(four);
        }
        x.end(text.length());
        return x;
    }

    /** A new object with SPACES told by these texts. */
    static ShadowSpaces with(String... spaces) {
        ShadowSpaces x = new ShadowSpaces();
        for (int i = 0; i < spaces.length; i++) {
            due("spaces " + spaces[i], tell(x, spaces[i]).spaces(), i);
        }
        return x;
    }

    static void rule(ShadowSpaces x, String text) {
        due("rule " + text, tell(x, text).rule(), 0);
    }

    static List<Long> row(ShadowSpaces x) {
        List<Long> all = new ArrayList<>();
        for (int i = 0; i < x.count(9); i++) {
            all.add(x.row(i));
        }
        return all;
    }

    /** The answer of a call and the ROW behind it. */
    static void told(String what, ShadowSpaces x, long got, long due, long... row) {
        due(what, got, due);
        due(what + ", the ROW", row(x).toString(), Arrays.toString(row));
    }

    static void finish() {
        System.out.println(checks + " checks, " + wrong + " wrong");
        if (wrong > 0 || checks == 0) {
            System.exit(1);
        }
    }
}
