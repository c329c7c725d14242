import java.math.BigInteger;
import java.util.ArrayList;
import java.util.Arrays;
import java.util.HashMap;
import java.util.LinkedHashMap;
import java.util.List;
import java.util.Map;
import java.util.NoSuchElementException;
import java.util.TreeMap;
import java.util.TreeSet;
import java.util.regex.Matcher;
import java.util.regex.Pattern;

/**
 * The document once more, as literally as can be and by other means than the class under test: OBJECTS that refer to
 * each other, FREED ones found by looking at all, texts by patterns, rules by descent, chances by all sets of PAGES.
 * Calls with an answer put it into a ROW likewise; what throws in the class throws here.
 */
final class Model {
    static final int NONE = -1;

    static final class Obj {
        final TreeMap<Integer, Integer> held = new TreeMap<>();
        final TreeSet<Integer> awaited = new TreeSet<>();
        Obj shadow;
        Obj copy;
        int pager;
        int digit;
    }

    static final class Space {
        Obj top;
        boolean shares;
    }

    static final class State {
        final Obj[] objects = new Obj[24];
        final Space[] spaces = new Space[6];
        int writes;

        State twin() {
            State twin = new State();
            Map<Obj, Obj> twins = new HashMap<>();
            for (int i = 0; i < 24; i++) {
                if (objects[i] != null) {
                    Obj t = new Obj();
                    t.held.putAll(objects[i].held);
                    t.awaited.addAll(objects[i].awaited);
                    t.pager = objects[i].pager;
                    t.digit = objects[i].digit;
                    twins.put(objects[i], t);
                    twin.objects[i] = t;
                }
            }
            for (Map.Entry<Obj, Obj> e : twins.entrySet()) {
                e.getValue().shadow = twins.get(e.getKey().shadow);
                e.getValue().copy = twins.get(e.getKey().copy);
            }
            for (int i = 0; i < 6; i++) {
                if (spaces[i] != null) {
                    twin.spaces[i] = new Space();
                    twin.spaces[i].top = twins.get(spaces[i].top);
                    twin.spaces[i].shares = spaces[i].shares;
                }
            }
            twin.writes = writes;
            return twin;
        }

        int number(Obj o) {
            return o == null ? 24 : Arrays.asList(objects).indexOf(o);
        }

        List<Obj> chain(int s) {
            List<Obj> all = new ArrayList<>();
            for (Obj o = spaces[s].top; o != null; o = o.shadow) {
                all.add(o);
            }
            return all;
        }

        List<Obj> there() {
            List<Obj> all = new ArrayList<>();
            for (Obj o : objects) {
                if (o != null) {
                    all.add(o);
                }
            }
            return all;
        }

        List<Integer> spacesThere() {
            List<Integer> all = new ArrayList<>();
            for (int s = 0; s < 6; s++) {
                if (spaces[s] != null) {
                    all.add(s);
                }
            }
            return all;
        }

        int frames() {
            int n = 0;
            for (Obj o : there()) {
                n += o.held.size();
            }
            return n;
        }

        int holders(Obj o) {
            int n = 0;
            for (int s : spacesThere()) {
                n += spaces[s].top == o ? 1 : 0;
            }
            for (Obj other : there()) {
                n += other.shadow == o ? 1 : 0;
            }
            return n;
        }

        int freeAll() {
            int n = 0;
            boolean again = true;
            while (again) {
                again = false;
                for (int i = 0; i < 24; i++) {
                    if (objects[i] != null && holders(objects[i]) == 0) {
                        drop(i);
                        n++;
                        again = true;
                    }
                }
            }
            return n;
        }

        void drop(int i) {
            Obj gone = objects[i];
            objects[i] = null;
            for (Obj o : there()) {
                if (o.copy == gone) {
                    o.copy = null;
                }
            }
        }

        /** null, if none can come. */
        Obj come() {
            for (int i = 0; i < 24; i++) {
                if (objects[i] == null) {
                    objects[i] = new Obj();
                    return objects[i];
                }
            }
            return null;
        }

        boolean has(int s) {
            return s >= 0 && s < 6 && spaces[s] != null;
        }

        Obj holderOf(int s, int page) {
            for (Obj o : chain(s)) {
                if (o.held.containsKey(page)) {
                    return o;
                }
            }
            return null;
        }

        int fetch(int s, int page) {
            Obj holder = holderOf(s, page);
            if (holder != null) {
                return holder.held.get(page);
            }
            List<Obj> chain = chain(s);
            Obj last = chain.get(chain.size() - 1);
            if (last.pager == 0) {
                return 0;
            }
            if (last.pager == 1) {
                last.held.put(page, 10 * last.digit + page);
                return 10 * last.digit + page;
            }
            if (last.pager == 2) {
                last.awaited.add(page);
                return -3;
            }
            return -4;
        }

        /** Collapses, then bypasses. */
        int[] tidy(int s) {
            int[] done = new int[2];
            Obj x = spaces[s].top;
            while (x.shadow != null) {
                Obj y = x.shadow;
                int bypasses = done[1];
                if (x.held.size() == 8) {
                    x.shadow = null;
                    done[1]++;
                } else if (holders(y) == 1 && y.pager == 0) {
                    for (int page : y.held.keySet()) {
                        if (!x.held.containsKey(page)) {
                            x.held.put(page, y.held.get(page));
                        }
                    }
                    x.shadow = y.shadow;
                    for (Obj o : there()) {
                        if (o.copy == y) {
                            o.copy = x;
                        }
                    }
                    objects[number(y)] = null;
                    done[0]++;
                } else if (y.pager == 0 && !isCopy(y) && x.held.keySet().containsAll(y.held.keySet())) {
                    x.shadow = y.shadow;
                    done[1]++;
                } else {
                    x = y;
                }
                if (done[1] > bypasses && x.shadow == null) {
                    for (Obj o : there()) {
                        if (o.copy == x) {
                            o.copy = null;
                        }
                    }
                }
                freeAll();
            }
            return done;
        }

        boolean isCopy(Obj y) {
            for (Obj o : there()) {
                if (o.copy == y) {
                    return true;
                }
            }
            return false;
        }
    }

    State now = new State();
    List<State> undos = new ArrayList<>();
    State[] kept = new State[2];
    String text = "";
    String rule = "n>3";
    List<Long> row = new ArrayList<>();
    List<int[]> heards = new ArrayList<>();
    List<int[]> saws = new ArrayList<>();

    // ---- rules

    /** Descends through a rule; wrong is the first place that can't stand. */
    static final class Descent {
        final String text;
        final State state;
        final int space;
        final int page;
        int at;
        int wrong = -1;

        Descent(String text, State state, int space, int page) {
            this.text = text;
            this.state = state;
            this.space = space;
            this.page = page;
        }

        char peek() {
            return at < Math.min(40, text.length()) ? text.charAt(at) : 0xFFFF;
        }

        void fail() {
            if (wrong < 0) {
                wrong = at;
            }
        }

        int all() {
            int value = compare(0);
            if (wrong < 0 && at < text.length()) {
                fail();
            }
            return value;
        }

        int compare(int depth) {
            int left = sum(depth);
            char c = peek();
            if (wrong < 0 && (c == '<' || c == '>' || c == '=')) {
                at++;
                int right = sum(depth);
                return c == '<' ? (left < right ? 1 : 0) : c == '>' ? (left > right ? 1 : 0) : left == right ? 1 : 0;
            }
            return left;
        }

        int sum(int depth) {
            int left = product(depth);
            while (wrong < 0 && (peek() == '+' || peek() == '-')) {
                char c = peek();
                at++;
                int right = product(depth);
                left = c == '+' ? left + right : left - right;
            }
            return left;
        }

        int product(int depth) {
            int left = signed(depth);
            while (wrong < 0 && (peek() == '*' || peek() == '/')) {
                char c = peek();
                at++;
                int right = signed(depth);
                left = c == '*' ? left * right : right == 0 ? 0 : left / right;
            }
            return left;
        }

        int signed(int depth) {
            if (peek() == '-') {
                at++;
                return -signed(depth);
            }
            return thing(depth);
        }

        int thing(int depth) {
            char c = peek();
            if (wrong >= 0) {
                return 0;
            }
            if (c == '(' && depth < 4) {
                at++;
                int value = compare(depth + 1);
                if (wrong < 0 && peek() != ')') {
                    fail();
                }
                at++;
                return value;
            }
            if (c >= '0' && c <= '9') {
                int value = 0;
                for (int n = 0; n < 3 && peek() >= '0' && peek() <= '9'; n++) {
                    value = 10 * value + peek() - '0';
                    at++;
                }
                return value;
            }
            if ("nfospwt".indexOf(c) < 0) {
                fail();
                return 0;
            }
            at++;
            return state == null ? 0 : measure(c);
        }

        int measure(char c) {
            switch (c) {
                case 'n':
                    return state.chain(space).size();
                case 'f':
                    return state.frames();
                case 'o':
                    return state.there().size();
                case 's':
                    return space;
                case 'p':
                    return page;
                case 'w':
                    return state.writes % 7;
                default:
                    return state.spaces[space].top.held.size();
            }
        }
    }

    static int wrongRule(String text) {
        if (text.isEmpty()) {
            return -1;
        }
        Descent d = new Descent(text, null, 0, 0);
        d.all();
        return d.wrong;
    }

    static int reckon(String rule, State state, int space, int page) {
        return new Descent(rule, state, space, page).all();
    }

    // ---- texts

    static final Pattern SPACE = Pattern.compile("[0-3][0-9](?:[0-9][0-9]|\\.\\.){0,8}");
    static final Pattern DAY = Pattern.compile("(?:r[0-9][0-7]|w[0-9][0-7][0-9][0-9]|[fet][0-9]|a[0-9][0-9][0-7][0-9][0-9])*");

    static int wrongSign(Pattern pattern, String text, int limit) {
        for (int p = 0; p < text.length() && p < limit; p++) {
            Matcher m = pattern.matcher(text.substring(0, p + 1));
            if (!m.matches() && !m.hitEnd()) {
                return p;
            }
        }
        if (text.length() > limit) {
            return limit;
        }
        return pattern.matcher(text).matches() ? -1 : text.length();
    }

    String take() {
        String taken = text;
        text = "";
        return taken;
    }

    int sign(int v) {
        if (text.length() > 76) {
            return NONE;
        }
        StringBuilder b = new StringBuilder(text);
        for (byte one : BigInteger.valueOf(v & 0xFFFFFFFFL | 1L << 40).toByteArray()) {
            b.append((char) (one & 255));
        }
        b.delete(text.length(), b.length() - 4);
        text = b.toString();
        return text.length();
    }

    boolean end(int n) {
        if (n < 0 || n > text.length()) {
            return false;
        }
        text = text.substring(0, n);
        return true;
    }

    int spaces() {
        String t = take();
        int wrong = wrongSign(SPACE, t, 18);
        if (wrong >= 0) {
            return -1 - wrong;
        }
        if (now.spacesThere().size() == 6) {
            return -100;
        }
        if (now.there().size() == 24) {
            return -101;
        }
        State then = now.twin();
        Obj o = then.come();
        o.pager = t.charAt(0) - '0';
        o.digit = t.charAt(1) - '0';
        for (int page = 0; 2 * page + 2 < t.length(); page++) {
            String two = t.substring(2 * page + 2, 2 * page + 4);
            if (!two.equals("..")) {
                o.held.put(page, Integer.parseInt(two));
            }
        }
        if (then.frames() > 64) {
            return -102;
        }
        for (int s = 0; s < 6; s++) {
            if (then.spaces[s] == null) {
                then.spaces[s] = new Space();
                then.spaces[s].top = o;
                done(then);
                return s;
            }
        }
        throw new IllegalStateException();
    }

    int rule() {
        String t = take();
        int wrong = wrongRule(t);
        if (wrong >= 0) {
            return -1 - wrong;
        }
        rule = t.isEmpty() ? "n>3" : t;
        return 0;
    }

    void done(State then) {
        undos.add(now);
        if (undos.size() > 8) {
            undos.remove(0);
        }
        now = then;
    }

    void tellRow(long... numbers) {
        row.clear();
        for (long n : numbers) {
            row.add(n);
        }
    }

    static int bits(Iterable<Integer> set) {
        int bits = 0;
        for (int i : set) {
            bits += 1 << i;
        }
        return bits;
    }

    int space(int s, int what) {
        if (!now.has(s) || what < 0 || what > 3) {
            throw new NoSuchElementException();
        }
        Space it = now.spaces[s];
        return what == 0 ? now.number(it.top) : what == 1 ? (it.shares ? 1 : 0) : what == 2 ? now.chain(s).size()
            : Math.max(-99, Math.min(99, reckon(rule, now, s, 0))) + 100;
    }

    Obj at(int o) {
        return o >= 0 && o < 24 ? now.objects[o] : null;
    }

    int object(int o, int what) {
        Obj it = at(o);
        if (it == null || what < 0 || what > 6) {
            throw new NoSuchElementException();
        }
        int[] answers = {bits(it.held.keySet()), now.number(it.shadow), now.number(it.copy), it.pager, it.digit,
            now.holders(it), bits(it.awaited)};
        return answers[what];
    }

    int page(int o, int page) {
        Obj it = at(o);
        if (it == null || !it.held.containsKey(page)) {
            throw new NoSuchElementException();
        }
        return it.held.get(page);
    }

    int sheet(int kind, int n, int f, int step) {
        if (kind < 0 || kind > 3 || n > 24) {
            return NONE;
        }
        if (kind < 3 && n < 0) {
            return -2;
        }
        List<Integer> entries = new ArrayList<>();
        int e = f;
        for (int i = 0; kind < 3 && i < n; i++) {
            entries.add(kind == 0 ? (byte) e : kind == 1 ? (short) e : e);
            e += step;
        }
        int sum = 0;
        List<Obj> there = now.there();
        for (int i = 0; i < there.size(); i++) {
            int d = i < entries.size() ? Math.max(0, Math.min(9, entries.get(i))) : 0;
            there.get(i).digit = d;
            sum += d;
        }
        return kind == 3 ? -3 : sum;
    }

    // ---- acts: on a twin, which is taken over if it counts as done

    int lastPlace = 0;

    int readOn(State st, int s, int page) {
        if (!st.has(s) || page < 0 || page > 7) {
            return NONE;
        }
        Obj holder = st.holderOf(s, page);
        lastPlace = holder == null ? st.chain(s).size() : st.chain(s).indexOf(holder);
        State tried = st.twin();
        int v = tried.fetch(s, page);
        if (tried.frames() > 64) {
            return -5;
        }
        st.fetch(s, page);
        return v;
    }

    int writeOn(State st, int s, int page, int v, String law) {
        if (!st.has(s) || page < 0 || page > 7 || v < 0 || v > 99) {
            return NONE;
        }
        State tried = st.twin();
        int answer = writeFreely(tried, s, page, v, law, false);
        if (answer == -3) {
            st.fetch(s, page);
        }
        if (answer < 0) {
            return answer;
        }
        if (tried.frames() > 64) {
            return -5;
        }
        return writeFreely(st, s, page, v, law, true);
    }

    int writeFreely(State st, int s, int page, int v, String law, boolean tidied) {
        Space it = st.spaces[s];
        if (!it.top.held.containsKey(page)) {
            int found = st.fetch(s, page);
            if (found < 0) {
                return found;
            }
        }
        if (it.shares) {
            if (st.holders(it.top) > 1) {
                Obj o = st.come();
                if (o == null) {
                    return -6;
                }
                o.shadow = it.top;
                it.top = o;
            }
            it.shares = false;
        }
        if (it.top.copy != null && !it.top.copy.held.containsKey(page)) {
            it.top.copy.held.put(page, it.top.held.get(page));
        }
        boolean had = it.top.held.containsKey(page);
        it.top.held.put(page, v);
        st.writes++;
        if (tidied && !had && reckon(law, st, s, page) > 0) {
            st.tidy(s);
        }
        return st.chain(s).size();
    }

    static int forkOn(State st, int s) {
        if (!st.has(s)) {
            return NONE;
        }
        int other = 0;
        while (other < 6 && st.spaces[other] != null) {
            other++;
        }
        if (other == 6) {
            return -2;
        }
        Obj top = st.spaces[s].top;
        Space comes = new Space();
        comes.shares = true;
        if (top.pager == 0) {
            comes.top = top;
            st.spaces[s].shares = true;
        } else {
            Obj o = st.come();
            if (o == null) {
                return -6;
            }
            o.shadow = top;
            if (top.copy != null) {
                top.copy.shadow = o;
            }
            top.copy = o;
            comes.top = o;
        }
        st.spaces[other] = comes;
        return other;
    }

    static int endOn(State st, int s) {
        if (!st.has(s)) {
            return NONE;
        }
        st.spaces[s] = null;
        return st.freeAll();
    }

    static int arriveOn(State st, int o, int page, int v) {
        if (o < 0 || o > 23 || st.objects[o] == null || page < 0 || page > 7 || v < 0 || v > 99) {
            return NONE;
        }
        Obj it = st.objects[o];
        if (!it.awaited.contains(page)) {
            return -2;
        }
        if (st.frames() == 64) {
            return -5;
        }
        it.awaited.remove(page);
        it.held.put(page, v);
        return it.awaited.size();
    }

    int tidyOn(State st, int s) {
        if (!st.has(s)) {
            return NONE;
        }
        lastTidy = st.tidy(s);
        return lastTidy[0] + lastTidy[1];
    }

    int[] lastTidy = new int[2];

    int reads(int s, int page) {
        State then = now.twin();
        int a = readOn(then, s, page);
        if (a >= 0 || a == -3) {
            done(then);
        }
        if (a >= 0) {
            tellRow(lastPlace);
        }
        return a;
    }

    int writes(int s, int page, int v) {
        State then = now.twin();
        int a = writeOn(then, s, page, v, rule);
        if (a >= 0 || a == -3) {
            done(then);
        }
        if (a >= 0) {
            tellRow(now.frames(), now.there().size());
        }
        return a;
    }

    int simply(State then, int answer) {
        if (answer >= 0) {
            done(then);
        }
        return answer;
    }

    int forks(int s) {
        State then = now.twin();
        return simply(then, forkOn(then, s));
    }

    int ends(int s) {
        State then = now.twin();
        return simply(then, endOn(then, s));
    }

    int arrives(int o, int page, int v) {
        State then = now.twin();
        return simply(then, arriveOn(then, o, page, v));
    }

    int tidies(int s) {
        State then = now.twin();
        int a = simply(then, tidyOn(then, s));
        if (a >= 0) {
            tellRow(lastTidy[0], lastTidy[1], now.chain(s).size());
        }
        return a;
    }

    int day() {
        String t = take();
        int wrong = wrongSign(DAY, t, 60);
        if (wrong >= 0) {
            return -1 - wrong;
        }
        State then = now.twin();
        int count = 0;
        boolean failed = false;
        boolean awaits = false;
        Matcher m = Pattern.compile("[a-z][0-9]+").matcher(t);
        while (!failed && m.find()) {
            int before = awaitedOf(then);
            failed = act(then, m.group()) < 0;
            awaits |= count == 0 && failed && awaitedOf(then) > before;
            count += failed ? 0 : 1;
        }
        if (count > 0 || awaits) {
            done(then);
        }
        tellRow(failed ? 1 : 0, now.frames());
        return count;
    }

    int act(State st, String act) {
        String d = act.substring(1);
        switch (act.charAt(0)) {
            case 'r':
                return readOn(st, Integer.parseInt(d.substring(0, 1)), Integer.parseInt(d.substring(1)));
            case 'w':
                return writeOn(st, Integer.parseInt(d.substring(0, 1)), Integer.parseInt(d.substring(1, 2)),
                    Integer.parseInt(d.substring(2)), rule);
            case 'f':
                return forkOn(st, Integer.parseInt(d));
            case 'e':
                return endOn(st, Integer.parseInt(d));
            case 't':
                return tidyOn(st, Integer.parseInt(d));
            default:
                return arriveOn(st, Integer.parseInt(d.substring(0, 2)), Integer.parseInt(d.substring(2, 3)),
                    Integer.parseInt(d.substring(3)));
        }
    }

    static int awaitedOf(State st) {
        int n = 0;
        for (Obj o : st.there()) {
            n += o.awaited.size();
        }
        return n;
    }

    int undo() {
        if (undos.isEmpty()) {
            return NONE;
        }
        now = undos.remove(undos.size() - 1);
        return undos.size();
    }

    // ---- questions

    int chain(int s) {
        if (!now.has(s)) {
            return NONE;
        }
        row.clear();
        for (Obj o : now.chain(s)) {
            row.add((long) now.number(o));
        }
        return row.size();
    }

    int peekOf(int s, int page) {
        return now.twin().fetch(s, page);
    }

    int peeks(int s, int page) {
        if (!now.has(s) || page < 0 || page > 7) {
            return NONE;
        }
        Obj holder = now.holderOf(s, page);
        int a = peekOf(s, page);
        if (a >= 0) {
            tellRow(holder == null ? now.chain(s).size() : now.chain(s).indexOf(holder));
        }
        return a;
    }

    List<Integer> above(Obj o) {
        List<Integer> all = new ArrayList<>();
        for (int s : now.spacesThere()) {
            if (now.chain(s).contains(o)) {
                all.add(s);
            }
        }
        return all;
    }

    int holders(int o) {
        if (at(o) == null) {
            return NONE;
        }
        tellRow(above(at(o)).size());
        return bits(above(at(o)));
    }

    int set(List<Integer> pages) {
        tellRow(pages.size());
        return bits(pages);
    }

    int shared(int one, int other) {
        if (!now.has(one) || !now.has(other) || one == other) {
            return NONE;
        }
        List<Integer> pages = new ArrayList<>();
        for (int p = 0; p < 8; p++) {
            if (now.holderOf(one, p) != null && now.holderOf(one, p) == now.holderOf(other, p)) {
                pages.add(p);
            }
        }
        return set(pages);
    }

    int differ(int one, int other) {
        if (!now.has(one) || !now.has(other) || one == other) {
            return NONE;
        }
        List<Integer> pages = new ArrayList<>();
        for (int p = 0; p < 8; p++) {
            int a = peekOf(one, p);
            int b = peekOf(other, p);
            if (a < 0 || b < 0 || a != b) {
                pages.add(p);
            }
        }
        return set(pages);
    }

    int common(int one, int other) {
        if (!now.has(one) || !now.has(other) || one == other) {
            return NONE;
        }
        for (Obj o : now.chain(one)) {
            if (now.chain(other).contains(o)) {
                tellRow(now.chain(one).indexOf(o), now.chain(other).indexOf(o));
                return now.number(o);
            }
        }
        return -2;
    }

    /** Object times 8 and page, of all FRAMES. */
    List<Integer> allFrames() {
        List<Integer> all = new ArrayList<>();
        for (int o = 0; o < 24; o++) {
            if (at(o) != null) {
                for (int p : at(o).held.keySet()) {
                    all.add(8 * o + p);
                }
            }
        }
        return all;
    }

    boolean hasFrame(int s, int frame) {
        return now.has(s) && now.holderOf(s, frame % 8) == now.objects[frame / 8];
    }

    int tellFirst(List<Integer> frames, int by) {
        row.clear();
        if (!frames.isEmpty()) {
            tellRow(frames.get(0) / by, frames.get(0) % by);
        }
        return frames.size();
    }

    int hidden() {
        List<Integer> all = allFrames();
        all.removeIf(f -> {
            for (int s = 0; s < 6; s++) {
                if (hasFrame(s, f)) {
                    return true;
                }
            }
            return false;
        });
        return tellFirst(all, 8);
    }

    int frames() {
        int eager = 0;
        for (int s : now.spacesThere()) {
            TreeSet<Integer> pages = new TreeSet<>();
            for (Obj o : now.chain(s)) {
                pages.addAll(o.held.keySet());
            }
            eager += pages.size();
        }
        tellRow(eager, now.there().size());
        return now.frames();
    }

    int deepest() {
        TreeMap<Integer, List<Integer>> byLength = new TreeMap<>();
        for (int s : now.spacesThere()) {
            byLength.computeIfAbsent(now.chain(s).size(), k -> new ArrayList<>()).add(s);
        }
        if (byLength.isEmpty()) {
            return -2;
        }
        tellRow(byLength.lastKey(), byLength.lastEntry().getValue().size());
        return byLength.lastEntry().getValue().get(0);
    }

    int would(int s) {
        State then = now.twin();
        int a = tidyOn(then, s);
        if (a >= 0) {
            tellRow(lastTidy[0], lastTidy[1], then.chain(s).size(), then.frames());
        }
        return a;
    }

    /** By all sets of SPACES, the smallest first. */
    int frees(int o) {
        if (at(o) == null) {
            return NONE;
        }
        int fewest = 7;
        int left = 0;
        for (int set = 0; set < 64; set++) {
            State then = now.twin();
            Obj it = then.objects[o];
            for (int s = 0; s < 6; s++) {
                if ((set >> s & 1) == 1) {
                    endOn(then, s);
                }
            }
            if (!then.there().contains(it) && Integer.bitCount(set) < fewest) {
                fewest = Integer.bitCount(set);
                left = then.frames();
            }
        }
        tellRow(left);
        return fewest;
    }

    int storm(int s, int n) {
        if (!now.has(s) || n < 0 || n > 5) {
            return NONE;
        }
        State then = now.twin();
        for (int i = 0; i < n; i++) {
            int other = forkOn(then, s);
            if (other >= 0) {
                writeOn(then, other, 0, other, rule);
            }
        }
        tellRow(then.there().size(), then.spacesThere().size());
        return then.frames();
    }

    int sweep(int s, int v) {
        if (!now.has(s) || v < 0 || v > 99) {
            return NONE;
        }
        State then = now.twin();
        int refused = 0;
        for (int p = 0; p < 8; p++) {
            refused += writeOn(then, s, p, v, rule) < 0 ? 1 : 0;
        }
        tellRow(then.frames(), refused);
        return then.chain(s).size();
    }

    /** By all 256 sets of PAGES that may be written. */
    int odds(int s, int p, int k) {
        if (!now.has(s) || p < 0 || p > 10 || k < 0 || k > 8) {
            return NONE;
        }
        Space it = now.spaces[s];
        boolean all = it.shares && now.holders(it.top) > 1;
        BigInteger upper = BigInteger.ZERO;
        for (int set = 0; set < 256; set++) {
            int copied = 0;
            BigInteger weight = BigInteger.ONE;
            for (int page = 0; page < 8; page++) {
                boolean written = (set >> page & 1) == 1;
                weight = weight.multiply(BigInteger.valueOf(written ? p : 10 - p));
                copied += written && (all || !it.top.held.containsKey(page)) ? 1 : 0;
            }
            upper = copied <= k ? upper.add(weight) : upper;
        }
        BigInteger lower = BigInteger.TEN.pow(8);
        BigInteger g = upper.gcd(lower);
        tellRow(upper.divide(g).longValueExact(), lower.divide(g).longValueExact());
        return 0;
    }

    static final int[] HEARD_LIMITS = {24, 8, 10, 6};

    int heard(int what, int v) {
        if (what < 0 || what > 3 || v < 0 || v >= HEARD_LIMITS[what] || heards.size() == 12) {
            return NONE;
        }
        heards.add(new int[] {what, v});
        return heards.size();
    }

    int forget() {
        int n = heards.size();
        heards.clear();
        return n;
    }

    boolean isSo(int frame, int what, int v) {
        Obj o = now.objects[frame / 8];
        return what == 0 ? frame / 8 == v : what == 1 ? frame % 8 == v : what == 2 ? o.held.get(frame % 8) >= 10 * v
            : hasFrame(v, frame);
    }

    List<Integer> fitting() {
        List<Integer> all = allFrames();
        all.removeIf(f -> heards.stream().anyMatch(h -> !isSo(f, h[0], h[1])));
        return all;
    }

    int fits() {
        return tellFirst(fitting(), 8);
    }

    int asks() {
        List<Integer> fitting = fitting();
        if (fitting.isEmpty()) {
            return -2;
        }
        TreeMap<Integer, Integer> codeByLeft = new TreeMap<>();
        for (int code = 399; code >= 0; code--) {
            int what = code / 100;
            int v = code % 100;
            if (v < HEARD_LIMITS[what]) {
                int so = (int) fitting.stream().filter(f -> isSo(f, what, v)).count();
                codeByLeft.put(Math.max(so, fitting.size() - so), code);
            }
        }
        tellRow(codeByLeft.firstKey());
        return codeByLeft.firstEntry().getValue();
    }

    int saw(int n, int t, int is) {
        if (n < 0 || n > 9 || t < 0 || t > 8 || is < 0 || is > 1 || saws.size() == 10) {
            return NONE;
        }
        saws.add(new int[] {n, t, is});
        return saws.size();
    }

    int denies() {
        int n = saws.size();
        saws.clear();
        return n;
    }

    List<Integer> fittingLaws() {
        List<Integer> all = new ArrayList<>();
        for (int law = 0; law < 49; law++) {
            int a = law / 7;
            int b = law % 7;
            if (saws.stream().allMatch(x -> (x[0] > a && x[1] >= b) == (x[2] == 1))) {
                all.add(law);
            }
        }
        return all;
    }

    int laws() {
        return tellFirst(fittingLaws(), 7);
    }

    int looks() {
        List<Integer> fitting = fittingLaws();
        if (fitting.isEmpty()) {
            return -2;
        }
        TreeMap<Integer, Integer> codeByLeft = new TreeMap<>();
        for (int code = 99; code >= 0; code--) {
            int n = code / 10;
            int t = code % 10;
            if (t <= 8) {
                int so = (int) fitting.stream().filter(law -> n > law / 7 && t >= law % 7).count();
                codeByLeft.put(Math.max(so, fitting.size() - so), code);
            }
        }
        tellRow(codeByLeft.firstKey());
        return codeByLeft.firstEntry().getValue();
    }

    /** Rows of pages, sorted: does who is to move win? */
    static final Map<List<Integer>, Boolean> WINS = new HashMap<>();

    static boolean wins(List<Integer> rows) {
        Boolean known = WINS.get(rows);
        if (known != null) {
            return known;
        }
        boolean wins = false;
        for (int i = 0; i < rows.size() && !wins; i++) {
            for (int taken = 1; taken <= Math.min(3, rows.get(i)) && !wins; taken++) {
                for (int left = 0; left <= rows.get(i) - taken && !wins; left++) {
                    wins = !wins(split(rows, i, taken, left));
                }
            }
        }
        WINS.put(rows, wins);
        return wins;
    }

    static List<Integer> split(List<Integer> rows, int i, int taken, int left) {
        List<Integer> next = new ArrayList<>(rows);
        int right = next.remove(i) - taken - left;
        if (left > 0) {
            next.add(left);
        }
        if (right > 0) {
            next.add(right);
        }
        next.sort(null);
        return next;
    }

    static final int SEARCHED_PAGES = 20;

    int pages(int n) {
        if (n < 0 || n > 60) {
            return NONE;
        }
        row.clear();
        for (int taken = 1; taken <= 3; taken++) {
            for (int left = 0; left <= n - taken; left++) {
                if (!wins(split(List.of(n), 0, taken, left))) {
                    tellRow(taken, left);
                    return 1;
                }
            }
        }
        return 0;
    }

    static int gain(int v, int mine, int his) {
        return mine < his ? v - mine : mine > his ? v / 2 - 2 * (mine - his) : v / 3 - mine;
    }

    int rests(int v) {
        if (v < 0 || v > 20) {
            return NONE;
        }
        List<Integer> all = new ArrayList<>();
        for (int pair = 0; pair < 100; pair++) {
            int x = pair / 10;
            int y = pair % 10;
            boolean rests = true;
            for (int z = 0; z < 10; z++) {
                rests &= gain(v, z, y) <= gain(v, x, y) && gain(v, z, x) <= gain(v, y, x);
            }
            if (rests) {
                all.add(pair);
            }
        }
        return tellFirst(all, 10);
    }

    int law() {
        String t = take();
        int wrong = wrongRule(t);
        if (wrong >= 0) {
            return -10000 - wrong;
        }
        State[] ends = new State[2];
        String[] rules = {t.isEmpty() ? "n>3" : t, rule};
        for (int i = 0; i < 2; i++) {
            ends[i] = now.twin();
            for (int s : now.spacesThere()) {
                writeOn(ends[i], s, 0, 7, rules[i]);
                writeOn(ends[i], s, 1, 7, rules[i]);
            }
        }
        tellRow(ends[0].frames(), ends[1].frames(), ends[0].there().size(), ends[1].there().size());
        return ends[0].frames() - ends[1].frames();
    }

    int drawn;

    int draw(int n) {
        drawn = drawn * 1103515245 + 12345;
        return (int) ((drawn & 0xFFFFFFFFL) / 65536 % n);
    }

    int years(int seed, int n) {
        if (n < 1 || n > 40) {
            return NONE;
        }
        State then = now.twin();
        drawn = seed;
        for (int i = 0; i < n; i++) {
            int what = draw(4);
            int s = draw(6);
            if (!then.has(s)) {
                continue;
            }
            if (what <= 1) {
                int page = draw(8);
                int v = draw(100);
                writeOn(then, s, page, v, rule);
            } else if (what == 2) {
                forkOn(then, s);
            } else if (draw(2) == 0) {
                endOn(then, s);
            } else {
                tidyOn(then, s);
            }
        }
        tellRow(objectBits(then), bits(then.spacesThere()));
        return then.frames();
    }

    static int objectBits(State st) {
        int bits = 0;
        for (Obj o : st.there()) {
            bits |= 1 << st.number(o);
        }
        return bits;
    }

    boolean keep(int i) {
        if (i < 0 || i > 1) {
            return false;
        }
        kept[i] = now.twin();
        return true;
    }

    boolean again(int i) {
        if (i < 0 || i > 1 || kept[i] == null) {
            return false;
        }
        now = kept[i].twin();
        undos.clear();
        return true;
    }

    int count(int what) {
        int sharing = 0;
        for (int s : now.spacesThere()) {
            sharing += now.spaces[s].shares ? 1 : 0;
        }
        Map<Integer, Integer> answers = new LinkedHashMap<>();
        answers.put(0, bits(now.spacesThere()));
        answers.put(1, objectBits(now));
        answers.put(2, now.frames());
        answers.put(3, now.writes);
        answers.put(4, sharing);
        answers.put(5, awaitedOf(now));
        answers.put(6, heards.size());
        answers.put(7, saws.size());
        answers.put(8, undos.size());
        answers.put(9, row.size());
        answers.put(10, text.length());
        return answers.getOrDefault(what, NONE);
    }

    long row(int i) {
        if (i < 0 || i >= row.size()) {
            throw new NoSuchElementException();
        }
        return row.get(i);
    }
}
