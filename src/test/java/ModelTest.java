import java.util.List;
import java.util.NoSuchElementException;
import java.util.Random;

/** Runs of calls drawn by fixed seeds, on the class and on support/Model: every answer and all that can be seen agree. */
public final class ModelTest {
    private static final int RUNS = 1000;
    private static final int CALLS = 220;

    private final Random random;
    private final ShadowSpaces real = new ShadowSpaces();
    private final Model model = new Model();
    private final StringBuilder story = new StringBuilder();
    private final int flavour;
    private static int compared = 0;

    private ModelTest(int seed) {
        random = new Random(seed);
        flavour = seed % 4;
    }

    private interface Call {
        long answer();
    }

    private static String of(Call call) {
        try {
            return "" + call.answer();
        } catch (NoSuchElementException e) {
            return "throws";
        }
    }

    private void both(String name, Call onReal, Call onModel) {
        story.append(name);
        String got = of(onReal);
        String due = of(onModel);
        story.append(" => ").append(got).append('\n');
        compared++;
        if (!got.equals(due)) {
            System.out.println(story + "due is " + due);
            System.exit(1);
        }
    }

    private static long bit(boolean is) {
        return is ? 1 : 0;
    }

    /** 0 .. n - 1 mostly, sometimes beside it. */
    private int some(int n) {
        return random.nextInt(25) == 0 ? random.nextInt(n + 6) - 3 : random.nextInt(n);
    }

    private int space() {
        List<Integer> there = model.now.spacesThere();
        return there.isEmpty() || random.nextInt(12) == 0 ? some(6) : there.get(random.nextInt(there.size()));
    }

    private int object() {
        List<Model.Obj> there = model.now.there();
        return there.isEmpty() || random.nextInt(15) == 0 ? some(24)
            : model.now.number(there.get(random.nextInt(there.size())));
    }

    private void tell(String text) {
        real.end(0);
        model.end(0);
        for (int at = 0; at < text.length(); at += 4) {
            int four = 0;
            for (int i = at; i < at + 4; i++) {
                four = four << 8 | (i < text.length() ? text.charAt(i) & 255 : random.nextInt(256));
            }
            int v = four;
            both("sign " + v, () -> real.sign(v), () -> model.sign(v));
        }
        int n = Math.min(80, text.length());
        both("end " + n + " " + text, () -> bit(real.end(n)), () -> bit(model.end(n)));
    }

    private String mutated(String text, String signs) {
        if (random.nextInt(5) > 0) {
            return text;
        }
        StringBuilder b = new StringBuilder(text);
        int at = random.nextInt(b.length() + 1);
        char c = random.nextInt(6) == 0 ? (char) random.nextInt(256) : signs.charAt(random.nextInt(signs.length()));
        switch (random.nextInt(4)) {
            case 0:
                b.setLength(at);
                break;
            case 1:
                b.insert(at, c);
                break;
            case 2:
                b.append(b);
                break;
            default:
                if (at < b.length()) {
                    b.setCharAt(at, c);
                }
                break;
        }
        return b.length() > 80 ? b.substring(0, 80) : b.toString();
    }

    private String spaceText() {
        int pager = flavour == 0 ? 0 : flavour == 1 ? 1 : random.nextInt(4);
        StringBuilder b = new StringBuilder().append(pager).append(random.nextInt(10));
        int pages = random.nextInt(9);
        for (int p = 0; p < pages; p++) {
            b.append(random.nextBoolean() ? ".." : "" + random.nextInt(10) + random.nextInt(10));
        }
        return mutated(b.toString(), "0123456789.");
    }

    private String expression(int depth) {
        switch (random.nextInt(depth > 3 ? 4 : 7)) {
            case 0:
            case 1:
                return "" + random.nextInt(random.nextInt(5) == 0 ? 1200 : 10);
            case 2:
            case 3:
                return "" + "nfospwt".charAt(random.nextInt(7));
            case 4:
                return "-" + expression(depth + 1);
            case 5:
                return "(" + expression(depth + 1) + ")";
            default:
                return expression(depth + 1) + "+-*/<>=".charAt(random.nextInt(7)) + expression(depth + 1);
        }
    }

    private String ruleText() {
        if (random.nextInt(4) == 0) {
            return new String[] {"", "1", "0", "n>1", "n>2", "t>2", "f>20", "o>5", "w=0"}[random.nextInt(9)];
        }
        String text = expression(0);
        while (flavour == 2 && text.length() < 36) {
            text = text.replaceAll("[<>=]", "+") + "-*/+".charAt(random.nextInt(4)) + expression(1);
        }
        return mutated(text, "nfospwt0123456789()+-*/<>=");
    }

    private String dayText() {
        StringBuilder b = new StringBuilder();
        for (int acts = random.nextInt(14); acts > 0; acts--) {
            int s = Math.floorMod(space(), 10);
            int p = random.nextInt(8);
            int v = random.nextInt(100);
            String value = "" + v / 10 + v % 10;
            int o = Math.floorMod(object(), 100);
            String[] kinds = {"r" + s + p, "w" + s + p + value, "w" + s + p + value, "f" + s, "e" + s, "t" + s,
                "a" + o / 10 + o % 10 + p + value};
            b.append(kinds[random.nextInt(random.nextInt(3) == 0 ? 7 : 4)]);
        }
        return mutated(b.toString(), "rwfeta0123456789");
    }

    private void step() {
        int which = random.nextInt(100);
        if (flavour == 3 && which < 12) {
            deepens();
        } else if (which < 8) {
            texts();
        } else if (which < 60) {
            acts();
        } else if (which < 64) {
            backs();
        } else if (which < 82) {
            questions();
        } else {
            guesses();
        }
    }

    private void texts() {
        switch (random.nextInt(5)) {
            case 0:
            case 1:
                tell(spaceText());
                both("spaces", real::spaces, model::spaces);
                break;
            case 2:
                tell(ruleText());
                both("rule", real::rule, model::rule);
                break;
            case 3:
                tell(dayText());
                both("day", real::day, model::day);
                break;
            default:
                tell(ruleText());
                both("law", real::law, model::law);
                break;
        }
    }

    private void acts() {
        int s = space();
        int p = some(8);
        int v = some(100);
        int o = object();
        switch (random.nextInt(20)) {
            case 0:
            case 1:
                both("reads " + s + " " + p, () -> real.reads(s, p), () -> model.reads(s, p));
                break;
            case 2:
                both("tidies " + s, () -> real.tidies(s), () -> model.tidies(s));
                break;
            case 3:
            case 4:
                both("ends " + s, () -> real.ends(s), () -> model.ends(s));
                break;
            case 5:
            case 6:
            case 7:
            case 8:
                both("forks " + s, () -> real.forks(s), () -> model.forks(s));
                break;
            case 9:
                awaited();
                break;
            case 10:
                both("arrives " + o + " " + p + " " + v, () -> real.arrives(o, p, v), () -> model.arrives(o, p, v));
                break;
            default:
                both("writes " + s + " " + p + " " + v, () -> real.writes(s, p, v), () -> model.writes(s, p, v));
                break;
        }
    }

    /** Forks that end again leave long chains, and these alone come to the limits of OBJECTS and FRAMES. */
    private void deepens() {
        if (random.nextInt(3) == 0) {
            tell("" + random.nextInt(2) + random.nextInt(10));
            both("spaces", real::spaces, model::spaces);
        }
        tell(new String[] {"0", "n>20", "n>15", "f>60"}[random.nextInt(4)]);
        both("rule", real::rule, model::rule);
        int s = space();
        int most = random.nextInt(9);
        for (int i = 0; i < most; i++) {
            both("forks " + s, () -> real.forks(s), () -> model.forks(s));
            int pages = 1 + random.nextInt(5);
            for (int n = 0; n < pages; n++) {
                int t = random.nextInt(3) == 0 ? space() : s;
                int p = random.nextInt(8);
                both("writes " + t + " " + p, () -> real.writes(t, p, 40 + p), () -> model.writes(t, p, 40 + p));
            }
            int t = model.now.spacesThere().size() < 4 ? -1 : space();
            if (t != s) {
                both("ends " + t, () -> real.ends(t), () -> model.ends(t));
            }
        }
    }

    private void awaited() {
        for (Model.Obj o : model.now.there()) {
            if (!o.awaited.isEmpty()) {
                int n = model.now.number(o);
                int p = o.awaited.first();
                both("arrives " + n + " " + p, () -> real.arrives(n, p, 5), () -> model.arrives(n, p, 5));
                return;
            }
        }
    }

    private void backs() {
        int i = some(2);
        int[] a = {some(4), random.nextInt(30) - 2, random.nextInt(), random.nextInt(5)};
        switch (random.nextInt(7)) {
            case 0:
                both("keep " + i, () -> bit(real.keep(i)), () -> bit(model.keep(i)));
                break;
            case 1:
                both("again " + i, () -> bit(real.again(i)), () -> bit(model.again(i)));
                break;
            case 2:
                int f = random.nextBoolean() ? a[2] : random.nextInt(600) - 300;
                both("sheet " + a[0] + " " + a[1] + " " + f + " " + a[3], () -> real.sheet(a[0], a[1], f, a[3]),
                    () -> model.sheet(a[0], a[1], f, a[3]));
                break;
            default:
                both("undo", real::undo, model::undo);
                break;
        }
    }

    private void questions() {
        int s = space();
        int t = space();
        int o = object();
        int p = some(8);
        int v = some(100);
        switch (random.nextInt(15)) {
            case 0:
                both("chain " + s, () -> real.chain(s), () -> model.chain(s));
                break;
            case 1:
                both("peeks " + s + " " + p, () -> real.peeks(s, p), () -> model.peeks(s, p));
                break;
            case 2:
                both("holders " + o, () -> real.holders(o), () -> model.holders(o));
                break;
            case 3:
                both("shared " + s + " " + t, () -> real.shared(s, t), () -> model.shared(s, t));
                break;
            case 4:
                both("differ " + s + " " + t, () -> real.differ(s, t), () -> model.differ(s, t));
                break;
            case 5:
                both("common " + s + " " + t, () -> real.common(s, t), () -> model.common(s, t));
                break;
            case 6:
                both("hidden", real::hidden, model::hidden);
                break;
            case 7:
                both("frames", real::frames, model::frames);
                break;
            case 8:
                both("deepest", real::deepest, model::deepest);
                break;
            case 9:
                both("would " + s, () -> real.would(s), () -> model.would(s));
                break;
            case 10:
                both("frees " + o, () -> real.frees(o), () -> model.frees(o));
                break;
            case 11:
                int n = some(6);
                both("storm " + s + " " + n, () -> real.storm(s, n), () -> model.storm(s, n));
                break;
            case 12:
                both("sweep " + s + " " + v, () -> real.sweep(s, v), () -> model.sweep(s, v));
                break;
            case 13:
                int k = some(9);
                int tenths = some(11);
                both("odds " + s + " " + tenths + " " + k, () -> real.odds(s, tenths, k), () -> model.odds(s, tenths, k));
                break;
            default:
                int seed = random.nextInt();
                int years = 1 + some(40);
                both("years " + seed + " " + years, () -> real.years(seed, years), () -> model.years(seed, years));
                break;
        }
    }

    private void guesses() {
        int what = some(4);
        int v = some(new int[] {24, 8, 10, 6}[Math.floorMod(what, 4)]);
        int n = some(10);
        int t = some(9);
        int is = some(2);
        switch (random.nextInt(12)) {
            case 0:
                both("forget", real::forget, model::forget);
                break;
            case 1:
                both("denies", real::denies, model::denies);
                break;
            case 2:
            case 3:
                both("heard " + what + " " + v, () -> real.heard(what, v), () -> model.heard(what, v));
                break;
            case 4:
                both("fits", real::fits, model::fits);
                break;
            case 5:
                both("asks", real::asks, model::asks);
                break;
            case 6:
            case 7:
                both("saw " + n + " " + t + " " + is, () -> real.saw(n, t, is), () -> model.saw(n, t, is));
                break;
            case 8:
                both("laws", real::laws, model::laws);
                break;
            case 9:
                both("looks", real::looks, model::looks);
                break;
            case 10:
                int pages = random.nextInt(Model.SEARCHED_PAGES);
                both("pages " + pages, () -> real.pages(pages), () -> model.pages(pages));
                break;
            default:
                int worth = some(21);
                both("rests " + worth, () -> real.rests(worth), () -> model.rests(worth));
                break;
        }
    }

    /** All that can be seen without a change, so that a wrong state shows at the call that made it. */
    private void look() {
        int before = story.length();
        for (int w = -1; w <= 11; w++) {
            int what = w;
            both("count " + what, () -> real.count(what), () -> model.count(what));
        }
        for (int i = -1; i <= model.row.size(); i++) {
            int at = i;
            both("row " + at, () -> real.row(at), () -> model.row(at));
        }
        for (int o = 0; o < 24; o++) {
            int object = o;
            for (int w = 0; w < 8; w++) {
                int what = w;
                both("object " + object + " " + what, () -> real.object(object, what), () -> model.object(object, what));
                both("page " + object + " " + what, () -> real.page(object, what), () -> model.page(object, what));
            }
        }
        for (int s = -1; s <= 6; s++) {
            int space = s;
            for (int w = -1; w <= 4; w++) {
                int what = w;
                both("space " + space + " " + what, () -> real.space(space, what), () -> model.space(space, what));
            }
        }
        story.setLength(before);
    }

    public static void main(String[] args) {
        int runs = args.length > 0 ? Integer.parseInt(args[0]) : RUNS;
        int first = args.length > 1 ? Integer.parseInt(args[1]) : 0;
        for (int seed = first; seed < first + runs; seed++) {
            ModelTest test = new ModelTest(seed);
            test.story.append("seed ").append(seed).append('\n');
            for (int call = 0; call < CALLS; call++) {
                test.step();
                if (call % 3 == 0) {
                    test.look();
                }
            }
        }
        System.out.println(compared + " answers agree with the model");
    }
}
