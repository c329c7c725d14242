import java.util.NoSuchElementException;

/** Forks by shadow objects. The numbers in the comments are those of the document's promises. */
public final class ShadowSpaces {
    public static final int NONE = -1;

    private static final int PAGE_LIMIT = 8;
    private static final int OBJECT_LIMIT = 24;
    private static final int SPACE_LIMIT = 6;
    private static final int FRAME_LIMIT = 64;
    private static final int VALUE_LIMIT = 100;
    private static final int ALL_PAGES = 255;
    /** Told where a SHADOW or a COPY is none: it is the number behind the last OBJECT's. */
    private static final int NOTHING = 24;

    private static final int PAGER_ANSWERS = 1;
    private static final int PAGER_IS_LATE = 2;
    private static final int PAGER_REFUSES = 3;

    private static final int THERE_IS_NONE = -2;
    private static final int AWAITS = -3;
    private static final int REFUSES = -4;
    private static final int NO_FRAME_LEFT = -5;
    private static final int NO_OBJECT_LEFT = -6;

    private static final int TEXT_LIMIT = 80;
    private static final int SPACE_TEXT_LIMIT = 18;
    private static final int RULE_TEXT_LIMIT = 40;
    private static final int DAY_TEXT_LIMIT = 60;
    /** What a reader of a text answers, if each sign can stand where it is. */
    private static final int ALL_STAND = -1;

    private static final int SHEET_LIMIT = 24;
    private static final int STORM_LIMIT = 5;
    private static final int YEARS_LIMIT = 40;

    private final char[] text = new char[TEXT_LIMIT];
    private int textLength;
    private final World world = new World();
    /** For all that is done as if: made once, so that no question makes objects. */
    private final World trial = new World();
    private final History history = new History();
    private final Rule theRule = new Rule();
    private final Rule draft = new Rule();
    private final RuleReader ruleReader = new RuleReader();
    private final Row told = new Row();
    private final Hearsay hearsay = new Hearsay();
    private final Sightings sightings = new Sightings();
    private final PageGame pageGame = new PageGame();

    /** 1. */
    public ShadowSpaces() {
        theRule.becomeNone();
    }

    // ---- spaces

    /** 2. */
    public int sign(int v) {
        if (textLength + 4 > TEXT_LIMIT) {
            return NONE;
        }
        for (int shift = 24; shift >= 0; shift -= 8) {
            text[textLength] = (char) (v >>> shift & 255);
            textLength++;
        }
        return textLength;
    }

    /** 3. */
    public boolean end(int n) {
        if (n < 0 || n > textLength) {
            return false;
        }
        textLength = n;
        return true;
    }

    /** 4. */
    public int spaces() {
        int length = takeText();
        int wrong = wrongSpaceSign(length);
        if (wrong != ALL_STAND) {
            return -1 - wrong;
        }
        if (world.spaceTotal() == SPACE_LIMIT) {
            return -100;
        }
        if (world.objectTotal() == OBJECT_LIMIT) {
            return -101;
        }
        if (world.frameTotal() + toldPages(length) > FRAME_LIMIT) {
            return -102;
        }
        history.mark(world);
        int object = world.comeObject(digitAt(0), digitAt(1));
        for (int at = 2; at + 1 < length; at += 2) {
            if (signAt(at) != '.') {
                world.hold(object, at / 2 - 1, numberAt(at));
            }
        }
        history.keepMark();
        return world.comeSpace(object);
    }

    /** 5. */
    public int rule() {
        int wrong = ruleReader.readRule(text, takeText(), draft);
        if (wrong != ALL_STAND) {
            return -1 - wrong;
        }
        theRule.copyFrom(draft);
        return 0;
    }

    /** 6. */
    public int space(int space, int what) throws NoSuchElementException {
        if (!world.hasSpace(space)) {
            throw new NoSuchElementException();
        }
        switch (what) {
            case 0:
                return world.topOf(space);
            case 1:
                return world.isSharing(space) ? 1 : 0;
            case 2:
                return world.chainLength(space);
            case 3:
                return clamp(theRule.reckon(world, space, 0), -99, 99) + 100;
            default:
                throw new NoSuchElementException();
        }
    }

    /** 7. */
    public int object(int object, int what) throws NoSuchElementException {
        if (!world.hasObject(object)) {
            throw new NoSuchElementException();
        }
        switch (what) {
            case 0:
                return world.heldOf(object);
            case 1:
                return world.shadowOf(object);
            case 2:
                return world.copyOf(object);
            case 3:
                return world.pagerOf(object);
            case 4:
                return world.digitOf(object);
            case 5:
                return world.holderTotal(object);
            case 6:
                return world.awaitedOf(object);
            default:
                throw new NoSuchElementException();
        }
    }

    /** 8. */
    public int page(int object, int page) throws NoSuchElementException {
        if (!world.holds(object, page)) {
            throw new NoSuchElementException();
        }
        return world.valueOf(object, page);
    }

    /** 9. */
    public int sheet(int kind, int n, int f, int step) {
        if (kind < 0 || kind > 3 || n > SHEET_LIMIT) {
            return NONE;
        }
        boolean missing = kind == 3;
        if (!missing && n < 0) {
            return -2;
        }
        int sum = 0;
        int next = 0;
        for (int object = 0; object < OBJECT_LIMIT; object++) {
            if (world.hasObject(object)) {
                int digit = !missing && next < n ? sheetEntry(kind, f + next * step) : 0;
                world.setDigit(object, digit);
                sum += digit;
                next++;
            }
        }
        return missing ? -3 : sum;
    }

    // ---- reads, writes, forks

    /** 10. */
    public int reads(int space, int page) {
        history.mark(world);
        int place = world.placeOf(space, world.firstHolder(space, page));
        int answer = world.readPage(space, page);
        if (answer >= 0) {
            told.clear();
            told.add(place);
        }
        keepIfDone(answer >= 0 || answer == AWAITS);
        return answer;
    }

    /** 11. */
    public int writes(int space, int page, int v) {
        history.mark(world);
        int answer = world.writePage(space, page, v, theRule);
        if (answer >= 0) {
            told.clear();
            told.add(world.frameTotal());
            told.add(world.objectTotal());
        }
        keepIfDone(answer >= 0 || answer == AWAITS);
        return answer;
    }

    /** 12. */
    public int forks(int space) {
        history.mark(world);
        int answer = world.forkSpace(space);
        keepIfDone(answer >= 0);
        return answer;
    }

    /** 13. */
    public int ends(int space) {
        history.mark(world);
        int answer = world.endSpace(space);
        keepIfDone(answer >= 0);
        return answer;
    }

    /** 14. */
    public int arrives(int object, int page, int v) {
        history.mark(world);
        int answer = world.arrivePage(object, page, v);
        keepIfDone(answer >= 0);
        return answer;
    }

    /** 15. */
    public int tidies(int space) {
        history.mark(world);
        int answer = world.tidyChain(space);
        if (answer >= 0) {
            tellTidying(world, space);
        }
        keepIfDone(answer >= 0);
        return answer;
    }

    /** 16. */
    public int day() {
        int length = takeText();
        int wrong = wrongDaySign(length);
        if (wrong != ALL_STAND) {
            return -1 - wrong;
        }
        history.mark(world);
        int awaited = world.awaitedTotal();
        int done = 0;
        boolean stopped = false;
        for (int at = 0; at < length && !stopped; at += 1 + actDigits(signAt(at)).length()) {
            stopped = actAt(at) < 0;
            done += stopped ? 0 : 1;
        }
        keepIfDone(done > 0 || world.awaitedTotal() > awaited);
        told.clear();
        told.add(stopped ? 1 : 0);
        told.add(world.frameTotal());
        return done;
    }

    /** 17. */
    public int undo() {
        return history.bringBack(world) ? history.total() : NONE;
    }

    // ---- who holds what

    /** 18. */
    public int chain(int space) {
        if (!world.hasSpace(space)) {
            return NONE;
        }
        int length = world.chainLength(space);
        told.clear();
        int object = world.topOf(space);
        for (int place = 0; place < length; place++) {
            told.add(object);
            object = world.shadowOf(object);
        }
        return length;
    }

    /** 19. */
    public int peeks(int space, int page) {
        int answer = world.peekPage(space, page);
        if (answer >= 0) {
            told.clear();
            told.add(world.placeOf(space, world.firstHolder(space, page)));
        }
        return answer;
    }

    /** 20. */
    public int holders(int object) {
        if (!world.hasObject(object)) {
            return NONE;
        }
        return tellSet(world.spacesAbove(object));
    }

    /** 21. */
    public int shared(int one, int other) {
        if (!areTwo(one, other)) {
            return NONE;
        }
        int alike = 0;
        for (int page = 0; page < PAGE_LIMIT; page++) {
            int holder = world.firstHolder(one, page);
            if (holder != NOTHING && holder == world.firstHolder(other, page)) {
                alike |= 1 << page;
            }
        }
        return tellSet(alike);
    }

    /** 22. */
    public int differ(int one, int other) {
        if (!areTwo(one, other)) {
            return NONE;
        }
        int unlike = 0;
        for (int page = 0; page < PAGE_LIMIT; page++) {
            int value = world.peekPage(one, page);
            if (value < 0 || value != world.peekPage(other, page)) {
                unlike |= 1 << page;
            }
        }
        return tellSet(unlike);
    }

    /** 23. */
    public int common(int one, int other) {
        if (!areTwo(one, other)) {
            return NONE;
        }
        int length = world.chainLength(one);
        int otherLength = world.chainLength(other);
        int object = world.topOf(one);
        for (int place = 0; place < length; place++) {
            int otherPlace = world.placeOf(other, object);
            if (otherPlace < otherLength) {
                told.clear();
                told.add(place);
                told.add(otherPlace);
                return object;
            }
            object = world.shadowOf(object);
        }
        return THERE_IS_NONE;
    }

    /** 24. */
    public int hidden() {
        int total = 0;
        told.clear();
        for (int object = 0; object < OBJECT_LIMIT; object++) {
            for (int page = 0; page < PAGE_LIMIT; page++) {
                if (world.holds(object, page) && !world.isSeen(object, page)) {
                    tellFirst(total, object, page);
                    total++;
                }
            }
        }
        return total;
    }

    /** 25. */
    public int frames() {
        told.clear();
        told.add(world.eagerTotal());
        told.add(world.objectTotal());
        return world.frameTotal();
    }

    /** 26. */
    public int deepest() {
        int best = THERE_IS_NONE;
        int longest = 0;
        int ties = 0;
        for (int space = 0; space < SPACE_LIMIT; space++) {
            int length = world.chainLength(space);
            if (length > longest) {
                best = space;
                longest = length;
                ties = 0;
            }
            ties += length == longest ? 1 : 0;
        }
        if (best >= 0) {
            told.clear();
            told.add(longest);
            told.add(ties);
        }
        return best;
    }

    /** 27. */
    public int would(int space) {
        trial.copyFrom(world);
        int answer = trial.tidyChain(space);
        if (answer >= 0) {
            tellTidying(trial, space);
            told.add(trial.frameTotal());
        }
        return answer;
    }

    /** 28. */
    public int frees(int object) {
        if (!world.hasObject(object)) {
            return NONE;
        }
        int ending = world.spacesAbove(object);
        trial.copyFrom(world);
        for (int space = 0; space < SPACE_LIMIT; space++) {
            if (isIn(ending, space)) {
                trial.endSpace(space);
            }
        }
        told.clear();
        told.add(trial.frameTotal());
        return Integer.bitCount(ending);
    }

    // ---- storms

    /** 29. */
    public int storm(int space, int n) {
        if (!world.hasSpace(space) || n < 0 || n > STORM_LIMIT) {
            return NONE;
        }
        trial.copyFrom(world);
        for (int turn = 0; turn < n; turn++) {
            int other = trial.forkSpace(space);
            if (other >= 0) {
                trial.writePage(other, 0, other, theRule);
            }
        }
        told.clear();
        told.add(trial.objectTotal());
        told.add(trial.spaceTotal());
        return trial.frameTotal();
    }

    /** 30. */
    public int sweep(int space, int v) {
        if (!world.hasSpace(space) || !isValue(v)) {
            return NONE;
        }
        trial.copyFrom(world);
        int refused = 0;
        for (int page = 0; page < PAGE_LIMIT; page++) {
            refused += trial.writePage(space, page, v, theRule) < 0 ? 1 : 0;
        }
        told.clear();
        told.add(trial.frameTotal());
        told.add(refused);
        return trial.chainLength(space);
    }

    // ---- chances

    /** 31. */
    public int odds(int space, int p, int k) {
        if (!world.hasSpace(space) || p < 0 || p > 10 || k < 0 || k > PAGE_LIMIT) {
            return NONE;
        }
        int copied = PAGE_LIMIT - Integer.bitCount(world.ownPages(space));
        long upper = 0;
        for (int written = 0; written <= k && written <= copied; written++) {
            upper += choices(copied, written) * power(p, written) * power(10 - p, copied - written);
        }
        tellFraction(upper, power(10, copied));
        return 0;
    }

    // ---- which frame it was

    /** 32. */
    public int heard(int what, int v) {
        return hearsay.hear(what, v);
    }

    /** 33. */
    public int forget() {
        return hearsay.empty();
    }

    /** 34. */
    public int fits() {
        int total = hearsay.gather(world);
        told.clear();
        if (total > 0) {
            told.add(hearsay.gatheredObject(0));
            told.add(hearsay.gatheredPage(0));
        }
        return total;
    }

    /** 35. */
    public int asks() {
        int total = hearsay.gather(world);
        if (total == 0) {
            return THERE_IS_NONE;
        }
        int best = 0;
        int fewest = total + 1;
        for (int what = 0; what < Hearsay.KINDS; what++) {
            for (int v = 0; v < Hearsay.numbersOf(what); v++) {
                int so = hearsay.agreeing(world, what, v);
                int left = Math.max(so, total - so);
                if (left < fewest) {
                    fewest = left;
                    best = 100 * what + v;
                }
            }
        }
        told.clear();
        told.add(fewest);
        return best;
    }

    // ---- laws of tidying

    /** 36. */
    public int saw(int n, int t, int is) {
        return sightings.see(n, t, is);
    }

    /** 37. */
    public int denies() {
        return sightings.empty();
    }

    /** 38. */
    public int laws() {
        int total = 0;
        told.clear();
        for (int a = 0; a < Sightings.LAW_SIDE; a++) {
            for (int b = 0; b < Sightings.LAW_SIDE; b++) {
                if (sightings.agreeWith(a, b)) {
                    tellFirst(total, a, b);
                    total++;
                }
            }
        }
        return total;
    }

    /** 39. */
    public int looks() {
        int total = sightings.gather();
        if (total == 0) {
            return THERE_IS_NONE;
        }
        int best = 0;
        int fewest = total + 1;
        for (int n = 0; n <= Sightings.MOST_OBJECTS; n++) {
            for (int t = 0; t <= PAGE_LIMIT; t++) {
                int tidied = sightings.tidying(n, t);
                int left = Math.max(tidied, total - tidied);
                if (left < fewest) {
                    fewest = left;
                    best = 10 * n + t;
                }
            }
        }
        told.clear();
        told.add(fewest);
        return best;
    }

    // ---- a game, rests, rules, days

    /** 40. */
    public int pages(int n) {
        if (n < 0 || n > PageGame.LONGEST) {
            return NONE;
        }
        told.clear();
        pageGame.weigh(n);
        for (int taken = 1; taken <= PageGame.MOST_TAKEN && taken <= n; taken++) {
            for (int left = 0; left <= n - taken; left++) {
                if (pageGame.isLost(left, n - taken - left)) {
                    told.add(taken);
                    told.add(left);
                    return 1;
                }
            }
        }
        return 0;
    }

    /** 41. */
    public int rests(int v) {
        if (v < 0 || v > Rests.MOST_WORTH) {
            return NONE;
        }
        int total = 0;
        told.clear();
        for (int x = 0; x <= Rests.MOST_WRITES; x++) {
            for (int y = 0; y <= Rests.MOST_WRITES; y++) {
                if (Rests.isBest(v, x, y) && Rests.isBest(v, y, x)) {
                    tellFirst(total, x, y);
                    total++;
                }
            }
        }
        return total;
    }

    /** 42. */
    public int law() {
        int wrong = ruleReader.readRule(text, takeText(), draft);
        if (wrong != ALL_STAND) {
            return -10000 - wrong;
        }
        tryRule(draft);
        int frames = trial.frameTotal();
        int objects = trial.objectTotal();
        tryRule(theRule);
        told.clear();
        told.add(frames);
        told.add(trial.frameTotal());
        told.add(objects);
        told.add(trial.objectTotal());
        return frames - trial.frameTotal();
    }

    /** 43. */
    public int years(int seed, int n) {
        if (n < 1 || n > YEARS_LIMIT) {
            return NONE;
        }
        trial.copyFrom(world);
        Draws draws = new Draws(seed);
        for (int turn = 0; turn < n; turn++) {
            int act = draws.draw(4);
            int space = draws.draw(SPACE_LIMIT);
            if (trial.hasSpace(space)) {
                actDrawn(draws, act, space);
            }
        }
        told.clear();
        told.add(trial.objectSet());
        told.add(trial.spaceSet());
        return trial.frameTotal();
    }

    // ---- kept

    /** 44. */
    public boolean keep(int i) {
        return history.store(i, world);
    }

    /** 45. */
    public boolean again(int i) {
        return history.fetchStored(i, world);
    }

    /** 46. */
    public int count(int what) {
        switch (what) {
            case 0:
                return world.spaceSet();
            case 1:
                return world.objectSet();
            case 2:
                return world.frameTotal();
            case 3:
                return world.writeTotal();
            case 4:
                return world.sharingTotal();
            case 5:
                return world.awaitedTotal();
            case 6:
                return hearsay.total();
            case 7:
                return sightings.total();
            case 8:
                return history.total();
            case 9:
                return told.total();
            case 10:
                return textLength;
            default:
                return NONE;
        }
    }

    /** 47. */
    public long row(int i) throws NoSuchElementException {
        if (!told.has(i)) {
            throw new NoSuchElementException();
        }
        return told.number(i);
    }

    // ---- plain tests of numbers and sets

    private static boolean isPage(int page) {
        return page >= 0 && page < PAGE_LIMIT;
    }

    private static boolean isValue(int v) {
        return v >= 0 && v < VALUE_LIMIT;
    }

    private static boolean isDigit(char sign) {
        return sign >= '0' && sign <= '9';
    }

    /** The bound keeps a shift from going round: 1 << 32 would be 1. */
    private static boolean isIn(int set, int member) {
        return member >= 0 && member < 32 && (set >>> member & 1) == 1;
    }

    private static int clamp(int number, int least, int most) {
        return Math.max(least, Math.min(most, number));
    }

    private boolean areTwo(int one, int other) {
        return one != other && world.hasSpace(one) && world.hasSpace(other);
    }

    private void keepIfDone(boolean done) {
        if (done) {
            history.keepMark();
        }
    }

    // ---- THE TEXT

    /** Its signs stay in the row until the next sign(), so that a reader needs no copy. */
    private int takeText() {
        int length = textLength;
        textLength = 0;
        return length;
    }

    private char signAt(int at) {
        return at >= 0 && at < text.length ? text[at] : 0;
    }

    private int digitAt(int at) {
        return signAt(at) - '0';
    }

    private int numberAt(int at) {
        return 10 * digitAt(at) + digitAt(at + 1);
    }

    private int wrongSpaceSign(int length) {
        for (int at = 0; at < length && at < SPACE_TEXT_LIMIT; at++) {
            if (!standsInSpace(at)) {
                return at;
            }
        }
        if (length > SPACE_TEXT_LIMIT) {
            return SPACE_TEXT_LIMIT;
        }
        return length < 2 || length % 2 == 1 ? length : ALL_STAND;
    }

    private boolean standsInSpace(int at) {
        char sign = signAt(at);
        if (at == 0) {
            return sign >= '0' && sign <= '3';
        }
        if (at == 1) {
            return isDigit(sign);
        }
        if (at % 2 == 0) {
            return isDigit(sign) || sign == '.';
        }
        return signAt(at - 1) == '.' ? sign == '.' : isDigit(sign);
    }

    private int toldPages(int length) {
        int total = 0;
        for (int at = 2; at + 1 < length; at += 2) {
            total += signAt(at) == '.' ? 0 : 1;
        }
        return total;
    }

    /** The highest digit that may stand at each place behind an ACT's letter; empty, if there is no such ACT. */
    private static String actDigits(char letter) {
        switch (letter) {
            case 'r':
                return "97";
            case 'w':
                return "9799";
            case 'f':
            case 'e':
            case 't':
                return "9";
            case 'a':
                return "99799";
            default:
                return "";
        }
    }

    private int wrongDaySign(int length) {
        String digits = "";
        int behind = 0;
        for (int at = 0; at < length && at < DAY_TEXT_LIMIT; at++) {
            char sign = signAt(at);
            if (behind < digits.length()) {
                if (sign < '0' || sign > digits.charAt(behind)) {
                    return at;
                }
                behind++;
            } else {
                digits = actDigits(sign);
                behind = 0;
                if (digits.isEmpty()) {
                    return at;
                }
            }
        }
        if (length > DAY_TEXT_LIMIT) {
            return DAY_TEXT_LIMIT;
        }
        return behind < digits.length() ? length : ALL_STAND;
    }

    private int actAt(int at) {
        int first = digitAt(at + 1);
        switch (signAt(at)) {
            case 'r':
                return world.readPage(first, digitAt(at + 2));
            case 'w':
                return world.writePage(first, digitAt(at + 2), numberAt(at + 3), theRule);
            case 'f':
                return world.forkSpace(first);
            case 'e':
                return world.endSpace(first);
            case 't':
                return world.tidyChain(first);
            case 'a':
                return world.arrivePage(numberAt(at + 1), digitAt(at + 3), numberAt(at + 4));
            default:
                return NONE;
        }
    }

    // ---- what is tried as if

    private void tryRule(Rule rule) {
        trial.copyFrom(world);
        for (int space = 0; space < SPACE_LIMIT; space++) {
            trial.writePage(space, 0, 7, rule);
            trial.writePage(space, 1, 7, rule);
        }
    }

    private void actDrawn(Draws draws, int act, int space) {
        if (act < 2) {
            int page = draws.draw(PAGE_LIMIT);
            trial.writePage(space, page, draws.draw(VALUE_LIMIT), theRule);
        } else if (act == 2) {
            trial.forkSpace(space);
        } else if (draws.draw(2) == 0) {
            trial.endSpace(space);
        } else {
            trial.tidyChain(space);
        }
    }

    // ---- how the ROW is told

    private int tellSet(int set) {
        told.clear();
        told.add(Integer.bitCount(set));
        return set;
    }

    private void tellFirst(int ahead, int one, int other) {
        if (ahead == 0) {
            told.add(one);
            told.add(other);
        }
    }

    private void tellTidying(World tidied, int space) {
        told.clear();
        told.add(tidied.collapseTotal());
        told.add(tidied.bypassTotal());
        told.add(tidied.chainLength(space));
    }

    private void tellFraction(long upper, long lower) {
        long divisor = commonDivisor(upper, lower);
        told.clear();
        told.add(divisor == 0 ? 0 : upper / divisor);
        told.add(divisor == 0 ? 1 : lower / divisor);
    }

    // ---- numbers

    /** Lowest bits with their sign, as a row of bytes or of shorts would hold them. */
    private static int sheetEntry(int kind, int number) {
        int entry = number;
        if (kind == 0) {
            entry = (byte) number;
        } else if (kind == 1) {
            entry = (short) number;
        }
        return clamp(entry, 0, 9);
    }

    private static long power(int base, int exponent) {
        long product = 1;
        for (int i = 0; i < exponent; i++) {
            product *= base;
        }
        return product;
    }

    private static long choices(int all, int chosen) {
        long ways = 1;
        for (int i = 1; i <= chosen; i++) {
            ways = ways * (all - chosen + i) / i;
        }
        return ways;
    }

    /** A hundred turns are more than two longs can need. */
    private static long commonDivisor(long one, long other) {
        long larger = one;
        long smaller = other;
        for (int turn = 0; turn < 100 && smaller != 0; turn++) {
            long rest = larger % smaller;
            larger = smaller;
            smaller = rest;
        }
        return larger;
    }

    /** All of SPACES, OBJECTS and WRITES, and what is done to them: what undo() and again() bring back. */
    private static final class World {
        private int spaceBits;
        private int sharingBits;
        private int objectBits;
        private int writeCount;
        private final int[] top = new int[SPACE_LIMIT];
        private final int[] heldBits = new int[OBJECT_LIMIT];
        private final int[] awaitedBits = new int[OBJECT_LIMIT];
        private final int[] shadow = new int[OBJECT_LIMIT];
        private final int[] copy = new int[OBJECT_LIMIT];
        private final int[] pager = new int[OBJECT_LIMIT];
        private final int[] digit = new int[OBJECT_LIMIT];
        private final int[] value = new int[OBJECT_LIMIT * PAGE_LIMIT];
        /** Of the latest tidying alone: no part of what is copied. */
        private int collapses;
        private int bypasses;

        /** What is not there has NOTHING in its rows, so that whoever looks through a row need not ask for it. */
        World() {
            for (int space = 0; space < SPACE_LIMIT; space++) {
                top[space] = NOTHING;
            }
            for (int object = 0; object < OBJECT_LIMIT; object++) {
                shadow[object] = NOTHING;
                copy[object] = NOTHING;
            }
        }

        void copyFrom(World other) {
            spaceBits = other.spaceBits;
            sharingBits = other.sharingBits;
            objectBits = other.objectBits;
            writeCount = other.writeCount;
            System.arraycopy(other.top, 0, top, 0, SPACE_LIMIT);
            System.arraycopy(other.heldBits, 0, heldBits, 0, OBJECT_LIMIT);
            System.arraycopy(other.awaitedBits, 0, awaitedBits, 0, OBJECT_LIMIT);
            System.arraycopy(other.shadow, 0, shadow, 0, OBJECT_LIMIT);
            System.arraycopy(other.copy, 0, copy, 0, OBJECT_LIMIT);
            System.arraycopy(other.pager, 0, pager, 0, OBJECT_LIMIT);
            System.arraycopy(other.digit, 0, digit, 0, OBJECT_LIMIT);
            System.arraycopy(other.value, 0, value, 0, OBJECT_LIMIT * PAGE_LIMIT);
        }

        // -- what is there

        boolean hasSpace(int space) {
            return space >= 0 && space < SPACE_LIMIT && top[space] != NOTHING;
        }

        boolean hasObject(int object) {
            return object >= 0 && object < OBJECT_LIMIT && (objectBits >>> object & 1) == 1;
        }

        boolean holds(int object, int page) {
            return hasObject(object) && isPage(page) && isIn(heldBits[object], page);
        }

        boolean isSharing(int space) {
            return isIn(sharingBits, space);
        }

        int spaceSet() {
            return spaceBits;
        }

        int objectSet() {
            return objectBits;
        }

        int spaceTotal() {
            return Integer.bitCount(spaceBits);
        }

        int objectTotal() {
            return Integer.bitCount(objectBits);
        }

        int sharingTotal() {
            return Integer.bitCount(sharingBits);
        }

        int writeTotal() {
            return writeCount;
        }

        int collapseTotal() {
            return collapses;
        }

        int bypassTotal() {
            return bypasses;
        }

        int frameTotal() {
            int total = 0;
            for (int object = 0; object < OBJECT_LIMIT; object++) {
                total += Integer.bitCount(heldBits[object]);
            }
            return total;
        }

        int awaitedTotal() {
            int total = 0;
            for (int object = 0; object < OBJECT_LIMIT; object++) {
                total += Integer.bitCount(awaitedBits[object]);
            }
            return total;
        }

        int topOf(int space) {
            return hasSpace(space) ? top[space] : NOTHING;
        }

        int heldOf(int object) {
            return hasObject(object) ? heldBits[object] : 0;
        }

        int awaitedOf(int object) {
            return hasObject(object) ? awaitedBits[object] : 0;
        }

        int shadowOf(int object) {
            return hasObject(object) ? shadow[object] : NOTHING;
        }

        int copyOf(int object) {
            return hasObject(object) ? copy[object] : NOTHING;
        }

        int pagerOf(int object) {
            return hasObject(object) ? pager[object] : 0;
        }

        int digitOf(int object) {
            return hasObject(object) ? digit[object] : 0;
        }

        int valueOf(int object, int page) {
            return holds(object, page) ? value[object * PAGE_LIMIT + page] : 0;
        }

        // -- who holds what

        int chainLength(int space) {
            int length = 0;
            int at = topOf(space);
            while (length < OBJECT_LIMIT && hasObject(at)) {
                at = shadow[at];
                length++;
            }
            return length;
        }

        /** As many as there are OBJECTS in the CHAIN, if it has not that one. */
        int placeOf(int space, int object) {
            int place = 0;
            int at = topOf(space);
            while (place < OBJECT_LIMIT && hasObject(at) && at != object) {
                at = shadow[at];
                place++;
            }
            return place;
        }

        int firstHolder(int space, int page) {
            int at = topOf(space);
            for (int place = 0; place < OBJECT_LIMIT && hasObject(at); place++) {
                if (holds(at, page)) {
                    return at;
                }
                at = shadow[at];
            }
            return NOTHING;
        }

        int lastOf(int space) {
            int at = topOf(space);
            for (int place = 0; place < OBJECT_LIMIT && hasObject(shadowOf(at)); place++) {
                at = shadow[at];
            }
            return at;
        }

        int holderTotal(int object) {
            int total = 0;
            for (int space = 0; space < SPACE_LIMIT; space++) {
                total += top[space] == object ? 1 : 0;
            }
            for (int other = 0; other < OBJECT_LIMIT; other++) {
                total += shadow[other] == object ? 1 : 0;
            }
            return total;
        }

        int spacesAbove(int object) {
            int set = 0;
            for (int space = 0; space < SPACE_LIMIT; space++) {
                if (hasSpace(space) && placeOf(space, object) < chainLength(space)) {
                    set |= 1 << space;
                }
            }
            return set;
        }

        boolean isSeen(int object, int page) {
            for (int space = 0; space < SPACE_LIMIT; space++) {
                if (firstHolder(space, page) == object) {
                    return true;
                }
            }
            return false;
        }

        int eagerTotal() {
            int total = 0;
            for (int space = 0; space < SPACE_LIMIT; space++) {
                for (int page = 0; page < PAGE_LIMIT; page++) {
                    total += firstHolder(space, page) == NOTHING ? 0 : 1;
                }
            }
            return total;
        }

        /** PAGES that a WRITE would find in the TOP: none, if it would have to put an OBJECT above it. */
        int ownPages(int space) {
            return needsObject(space) ? 0 : heldOf(topOf(space));
        }

        private boolean isCopy(int object) {
            for (int other = 0; other < OBJECT_LIMIT; other++) {
                if (copy[other] == object) {
                    return true;
                }
            }
            return false;
        }

        // -- what comes

        private static int leastMissing(int set, int limit) {
            return Math.min(limit, Integer.numberOfTrailingZeros(~set));
        }

        /** NOTHING, if no OBJECT more can come. */
        int comeObject(int itsPager, int itsDigit) {
            int object = leastMissing(objectBits, OBJECT_LIMIT);
            if (object >= OBJECT_LIMIT) {
                return NOTHING;
            }
            objectBits |= 1 << object;
            pager[object] = itsPager;
            digit[object] = itsDigit;
            return object;
        }

        /** NONE, if no SPACE more can come, or it would have no TOP. */
        int comeSpace(int itsTop) {
            int space = leastMissing(spaceBits, SPACE_LIMIT);
            if (space >= SPACE_LIMIT || !hasObject(itsTop)) {
                return NONE;
            }
            spaceBits |= 1 << space;
            top[space] = itsTop;
            return space;
        }

        void hold(int object, int page, int v) {
            if (hasObject(object) && isPage(page)) {
                heldBits[object] |= 1 << page;
                value[object * PAGE_LIMIT + page] = v;
            }
        }

        void setDigit(int object, int itsDigit) {
            if (hasObject(object)) {
                digit[object] = itsDigit;
            }
        }

        // -- reads and writes

        int peekPage(int space, int page) {
            if (!hasSpace(space) || !isPage(page)) {
                return NONE;
            }
            int holder = firstHolder(space, page);
            if (holder != NOTHING) {
                return valueOf(holder, page);
            }
            int last = lastOf(space);
            switch (pagerOf(last)) {
                case PAGER_ANSWERS:
                    return 10 * digitOf(last) + page;
                case PAGER_IS_LATE:
                    return AWAITS;
                case PAGER_REFUSES:
                    return REFUSES;
                default:
                    return 0;
            }
        }

        int readPage(int space, int page) {
            int found = peekPage(space, page);
            if (found < 0) {
                awaitIfLate(found, space, page);
                return found;
            }
            if (isPagedIn(space, page)) {
                if (frameTotal() >= FRAME_LIMIT) {
                    return NO_FRAME_LEFT;
                }
                hold(lastOf(space), page, found);
            }
            return found;
        }

        int writePage(int space, int page, int v, Rule rule) {
            if (!isValue(v)) {
                return NONE;
            }
            int found = peekPage(space, page);
            if (found < 0) {
                awaitIfLate(found, space, page);
                return found;
            }
            boolean comes = needsObject(space);
            if (comes && objectTotal() >= OBJECT_LIMIT) {
                return NO_OBJECT_LEFT;
            }
            if (frameTotal() + framesToWrite(space, page, comes) > FRAME_LIMIT) {
                return NO_FRAME_LEFT;
            }
            if (isPagedIn(space, page)) {
                hold(lastOf(space), page, found);
            }
            if (comes) {
                putObjectAbove(space);
            }
            sharingBits &= ~(1 << space);
            int itsTop = topOf(space);
            if (pushesToCopy(itsTop, page)) {
                hold(copyOf(itsTop), page, valueOf(itsTop, page));
            }
            boolean had = holds(itsTop, page);
            hold(itsTop, page, v);
            writeCount++;
            if (!had && rule.reckon(this, space, page) > 0) {
                tidyChain(space);
            }
            return chainLength(space);
        }

        private void awaitIfLate(int found, int space, int page) {
            int last = lastOf(space);
            if (found == AWAITS && hasObject(last) && isPage(page)) {
                awaitedBits[last] |= 1 << page;
            }
        }

        /** None of the CHAIN HOLDS it, and the last one's PAGER answers: it takes a FRAME to FETCH it. */
        private boolean isPagedIn(int space, int page) {
            return firstHolder(space, page) == NOTHING && pagerOf(lastOf(space)) == PAGER_ANSWERS;
        }

        private boolean needsObject(int space) {
            return isSharing(space) && holderTotal(topOf(space)) > 1;
        }

        private boolean pushesToCopy(int object, int page) {
            int itsCopy = copyOf(object);
            return hasObject(itsCopy) && !holds(itsCopy, page);
        }

        private int framesToWrite(int space, int page, boolean comes) {
            int itsTop = topOf(space);
            boolean pagedIn = isPagedIn(space, page);
            boolean toHold = comes || !(holds(itsTop, page) || (pagedIn && lastOf(space) == itsTop));
            boolean toPush = !comes && pushesToCopy(itsTop, page);
            return (pagedIn ? 1 : 0) + (toHold ? 1 : 0) + (toPush ? 1 : 0);
        }

        private void putObjectAbove(int space) {
            int object = comeObject(0, 0);
            if (hasSpace(space) && hasObject(object)) {
                shadow[object] = top[space];
                top[space] = object;
            }
        }

        int arrivePage(int object, int page, int v) {
            if (!hasObject(object) || !isPage(page) || !isValue(v)) {
                return NONE;
            }
            if (!isIn(awaitedBits[object], page)) {
                return THERE_IS_NONE;
            }
            if (frameTotal() >= FRAME_LIMIT) {
                return NO_FRAME_LEFT;
            }
            awaitedBits[object] &= ~(1 << page);
            hold(object, page, v);
            return Integer.bitCount(awaitedBits[object]);
        }

        // -- forks and ends

        int forkSpace(int space) {
            if (!hasSpace(space)) {
                return NONE;
            }
            if (spaceTotal() >= SPACE_LIMIT) {
                return THERE_IS_NONE;
            }
            int itsTop = top[space];
            boolean pushes = pagerOf(itsTop) != 0;
            if (pushes && objectTotal() >= OBJECT_LIMIT) {
                return NO_OBJECT_LEFT;
            }
            if (!pushes) {
                sharingBits |= 1 << space;
            }
            int other = comeSpace(pushes ? comeCopy(itsTop) : itsTop);
            if (other >= 0) {
                sharingBits |= 1 << other;
            }
            return other;
        }

        /** The older COPY goes above the new one: it had all that this one is to have, and more. */
        private int comeCopy(int original) {
            int object = comeObject(0, 0);
            if (hasObject(object) && hasObject(original)) {
                shadow[object] = original;
                int older = copy[original];
                if (hasObject(older)) {
                    shadow[older] = object;
                }
                copy[original] = object;
            }
            return object;
        }

        int endSpace(int space) {
            if (!hasSpace(space)) {
                return NONE;
            }
            spaceBits &= ~(1 << space);
            sharingBits &= ~(1 << space);
            int itsTop = top[space];
            top[space] = NOTHING;
            return release(itsTop);
        }

        /** One OBJECT can let go of one alone, its SHADOW: so the FREED ones are a chain. */
        private int release(int object) {
            int freed = 0;
            int at = object;
            while (freed < OBJECT_LIMIT && hasObject(at) && holderTotal(at) == 0) {
                int next = shadow[at];
                remove(at, NOTHING);
                at = next;
                freed++;
            }
            return freed;
        }

        private void remove(int object, int heir) {
            if (hasObject(object)) {
                passCopy(object, heir);
                objectBits &= ~(1 << object);
                heldBits[object] = 0;
                awaitedBits[object] = 0;
                shadow[object] = NOTHING;
                copy[object] = NOTHING;
            }
        }

        private void passCopy(int object, int heir) {
            for (int other = 0; other < OBJECT_LIMIT; other++) {
                if (copy[other] == object) {
                    copy[other] = heir;
                }
            }
        }

        // -- tidying

        /** Each turn takes one OBJECT out of the CHAIN or goes one on: no CHAIN needs more turns than OBJECTS. */
        int tidyChain(int space) {
            if (!hasSpace(space)) {
                return NONE;
            }
            collapses = 0;
            bypasses = 0;
            int x = top[space];
            for (int turn = 0; turn < OBJECT_LIMIT && hasObject(x) && hasObject(shadow[x]); turn++) {
                int y = shadow[x];
                if (heldBits[x] == ALL_PAGES) {
                    bypass(x, NOTHING);
                } else if (pager[y] == 0 && holderTotal(y) == 1) {
                    collapse(x, y);
                } else if (pager[y] == 0 && !isCopy(y) && (heldBits[y] & ~heldBits[x]) == 0) {
                    bypass(x, shadow[y]);
                } else {
                    x = y;
                }
            }
            return collapses + bypasses;
        }

        private void bypass(int x, int next) {
            if (hasObject(x)) {
                int y = shadow[x];
                shadow[x] = next;
                if (next == NOTHING) {
                    passCopy(x, NOTHING);
                }
                release(y);
                bypasses++;
            }
        }

        private void collapse(int x, int y) {
            if (hasObject(x) && hasObject(y)) {
                for (int page = 0; page < PAGE_LIMIT; page++) {
                    if (holds(y, page) && !holds(x, page)) {
                        hold(x, page, valueOf(y, page));
                    }
                }
                shadow[x] = shadow[y];
                remove(y, x);
                collapses++;
            }
        }
    }

    /** What can be undone, and what is kept under a number. */
    private static final class History {
        private static final int DEPTH = 8;
        private static final int SHELVES = 2;

        /** One more than can be undone: the mark of a call that may yet be refused. */
        private final World[] marks = new World[DEPTH + 1];
        private final World[] shelf = new World[SHELVES];
        private final boolean[] stored = new boolean[SHELVES];
        private int marked;
        private int size;

        History() {
            for (int i = 0; i <= DEPTH; i++) {
                marks[i] = new World();
            }
            for (int i = 0; i < SHELVES; i++) {
                shelf[i] = new World();
            }
        }

        int total() {
            return size;
        }

        void mark(World world) {
            if (marked >= 0 && marked < marks.length) {
                marks[marked].copyFrom(world);
            }
        }

        void keepMark() {
            marked = (marked + 1) % (DEPTH + 1);
            size = Math.min(DEPTH, size + 1);
        }

        boolean bringBack(World world) {
            if (size == 0) {
                return false;
            }
            marked = (marked + DEPTH) % (DEPTH + 1);
            size--;
            if (marked >= 0 && marked < marks.length) {
                world.copyFrom(marks[marked]);
            }
            return true;
        }

        boolean store(int i, World world) {
            if (i < 0 || i >= SHELVES) {
                return false;
            }
            shelf[i].copyFrom(world);
            stored[i] = true;
            return true;
        }

        boolean fetchStored(int i, World world) {
            if (i < 0 || i >= SHELVES || !stored[i]) {
                return false;
            }
            world.copyFrom(shelf[i]);
            size = 0;
            return true;
        }
    }

    /** A RULE, its things ahead of the signs that bind them, so that it is reckoned without recursion. */
    private static final class Rule {
        /** Numbers stand for themselves, all else is its sign and this: no NUMBER is so high. */
        private static final int FIRST_SIGN = 1000;
        private static final char NEGATION = '~';

        private final int[] code = new int[RULE_TEXT_LIMIT];
        private final int[] stack = new int[RULE_TEXT_LIMIT];
        private int size;

        void clear() {
            size = 0;
        }

        void becomeNone() {
            clear();
            addSign('n');
            addNumber(3);
            addSign('>');
        }

        void copyFrom(Rule other) {
            System.arraycopy(other.code, 0, code, 0, RULE_TEXT_LIMIT);
            size = other.size;
        }

        void addNumber(int number) {
            if (size >= 0 && size < code.length) {
                code[size] = number;
                size++;
            }
        }

        void addSign(char sign) {
            addNumber(FIRST_SIGN + sign);
        }

        void appendDigit(int digit) {
            if (size > 0 && size <= code.length) {
                code[size - 1] = 10 * code[size - 1] + digit;
            }
        }

        int reckon(World world, int space, int page) {
            int height = 0;
            for (int i = 0; i < size && i < code.length; i++) {
                char sign = signOf(code[i]);
                if (sign == 0) {
                    height = push(height, code[i]);
                } else if (sign == NEGATION) {
                    negateTop(height);
                } else if (RuleReader.isBinary(sign)) {
                    height = bindTop(height, sign);
                } else {
                    height = push(height, measure(sign, world, space, page));
                }
            }
            return stack[0];
        }

        /** 0, if it is a NUMBER. */
        private static char signOf(int step) {
            return step >= FIRST_SIGN ? (char) (step - FIRST_SIGN) : 0;
        }

        private int push(int height, int number) {
            if (height < 0 || height >= stack.length) {
                return height;
            }
            stack[height] = number;
            return height + 1;
        }

        private void negateTop(int height) {
            if (height > 0 && height <= stack.length) {
                stack[height - 1] = -stack[height - 1];
            }
        }

        private int bindTop(int height, char sign) {
            if (height < 2 || height > stack.length) {
                return height;
            }
            stack[height - 2] = bind(sign, stack[height - 2], stack[height - 1]);
            return height - 1;
        }

        private static int bind(char sign, int left, int right) {
            switch (sign) {
                case '<':
                    return left < right ? 1 : 0;
                case '>':
                    return left > right ? 1 : 0;
                case '=':
                    return left == right ? 1 : 0;
                case '+':
                    return left + right;
                case '-':
                    return left - right;
                case '*':
                    return left * right;
                default:
                    return right == 0 ? 0 : left / right;
            }
        }

        private static int measure(char sign, World world, int space, int page) {
            switch (sign) {
                case 'n':
                    return world.chainLength(space);
                case 'f':
                    return world.frameTotal();
                case 'o':
                    return world.objectTotal();
                case 's':
                    return space;
                case 'p':
                    return page;
                case 'w':
                    return world.writeTotal() % 7;
                default:
                    return Integer.bitCount(world.heldOf(world.topOf(space)));
            }
        }
    }

    /** Reads a RULE sign by sign; what binds less waits until what binds more is done. */
    private static final class RuleReader {
        private static final int DEEPEST = 4;
        private static final int MOST_DIGITS = 3;

        private final char[] waiting = new char[RULE_TEXT_LIMIT];
        private final boolean[] compared = new boolean[DEEPEST + 1];
        private int waitingSize;
        private int depth;
        /** Of the NUMBER that the last sign belongs to; 0: it belongs to none. */
        private int digits;
        private boolean wantsThing;

        /** The place of the first sign that can't stand there, or ALL_STAND: then the RULE is the text's. */
        int readRule(char[] text, int length, Rule rule) {
            if (length == 0) {
                rule.becomeNone();
                return ALL_STAND;
            }
            start(rule);
            int most = Math.min(Math.min(length, RULE_TEXT_LIMIT), text.length);
            for (int at = 0; at < most; at++) {
                if (!takes(text[at], rule)) {
                    return at;
                }
            }
            if (length > RULE_TEXT_LIMIT) {
                return RULE_TEXT_LIMIT;
            }
            if (wantsThing || depth > 0) {
                return length;
            }
            releaseDownTo(1, rule);
            return ALL_STAND;
        }

        static boolean isBinary(char sign) {
            return strength(sign) > 0 && sign != Rule.NEGATION;
        }

        private static int strength(char sign) {
            switch (sign) {
                case '<':
                case '>':
                case '=':
                    return 1;
                case '+':
                case '-':
                    return 2;
                case '*':
                case '/':
                    return 3;
                case Rule.NEGATION:
                    return 4;
                default:
                    return 0;
            }
        }

        private static boolean isMeasure(char sign) {
            switch (sign) {
                case 'n':
                case 'f':
                case 'o':
                case 's':
                case 'p':
                case 'w':
                case 't':
                    return true;
                default:
                    return false;
            }
        }

        private void start(Rule rule) {
            rule.clear();
            waitingSize = 0;
            depth = 0;
            digits = 0;
            wantsThing = true;
            compared[0] = false;
        }

        private boolean takes(char sign, Rule rule) {
            if (isDigit(sign)) {
                return takesDigit(sign - '0', rule);
            }
            digits = 0;
            return wantsThing ? takesThing(sign, rule) : takesBinder(sign, rule);
        }

        private boolean takesDigit(int digit, Rule rule) {
            if (wantsThing) {
                rule.addNumber(digit);
                digits = 1;
                wantsThing = false;
                return true;
            }
            if (digits == 0 || digits == MOST_DIGITS) {
                return false;
            }
            rule.appendDigit(digit);
            digits++;
            return true;
        }

        private boolean takesThing(char sign, Rule rule) {
            if (sign == '-') {
                hoard(Rule.NEGATION);
                return true;
            }
            if (sign == '(' && depth < DEEPEST) {
                hoard(sign);
                depth++;
                setCompared(false);
                return true;
            }
            if (isMeasure(sign)) {
                rule.addSign(sign);
                wantsThing = false;
                return true;
            }
            return false;
        }

        private boolean takesBinder(char sign, Rule rule) {
            if (sign == ')' && depth > 0) {
                releaseDownTo(1, rule);
                waitingSize = Math.max(0, waitingSize - 1);
                depth--;
                return true;
            }
            if (!isBinary(sign)) {
                return false;
            }
            if (strength(sign) == 1) {
                if (isCompared()) {
                    return false;
                }
                setCompared(true);
            }
            releaseDownTo(strength(sign), rule);
            hoard(sign);
            wantsThing = true;
            return true;
        }

        private boolean isCompared() {
            return depth >= 0 && depth < compared.length && compared[depth];
        }

        private void setCompared(boolean is) {
            if (depth >= 0 && depth < compared.length) {
                compared[depth] = is;
            }
        }

        private void hoard(char sign) {
            if (waitingSize >= 0 && waitingSize < waiting.length) {
                waiting[waitingSize] = sign;
                waitingSize++;
            }
        }

        /** A bracket binds nothing, so it stops what is released at any strength above 0. */
        private void releaseDownTo(int least, Rule rule) {
            while (waitingSize > 0 && waitingSize <= waiting.length && strength(waiting[waitingSize - 1]) >= least) {
                waitingSize--;
                rule.addSign(waiting[waitingSize]);
            }
        }
    }

    /** The ROW: no call tells more numbers than a CHAIN has OBJECTS. */
    private static final class Row {
        private final long[] numbers = new long[OBJECT_LIMIT];
        private int size;

        void clear() {
            size = 0;
        }

        void add(long number) {
            if (size >= 0 && size < numbers.length) {
                numbers[size] = number;
                size++;
            }
        }

        int total() {
            return size;
        }

        boolean has(int i) {
            return i >= 0 && i < size && i < numbers.length;
        }

        long number(int i) {
            return has(i) ? numbers[i] : 0;
        }
    }

    /** What was heard of a FRAME, and the FRAMES that fit it. */
    private static final class Hearsay {
        static final int KINDS = 4;
        private static final int LIMIT = 12;

        private final int[] whats = new int[LIMIT];
        private final int[] numbers = new int[LIMIT];
        private final int[] gathered = new int[FRAME_LIMIT];
        private int size;
        private int gatheredSize;

        /** How many numbers, from 0 on, may be heard of a kind. */
        static int numbersOf(int what) {
            switch (what) {
                case 0:
                    return OBJECT_LIMIT;
                case 1:
                    return PAGE_LIMIT;
                case 2:
                    return 10;
                case 3:
                    return SPACE_LIMIT;
                default:
                    return 0;
            }
        }

        int hear(int what, int v) {
            if (v < 0 || v >= numbersOf(what) || size < 0 || size >= LIMIT) {
                return NONE;
            }
            whats[size] = what;
            numbers[size] = v;
            size++;
            return size;
        }

        int empty() {
            int before = size;
            size = 0;
            return before;
        }

        int total() {
            return size;
        }

        int gather(World world) {
            gatheredSize = 0;
            for (int frame = 0; frame < OBJECT_LIMIT * PAGE_LIMIT; frame++) {
                boolean held = world.holds(frame / PAGE_LIMIT, frame % PAGE_LIMIT);
                if (held && fitsAll(world, frame) && gatheredSize >= 0 && gatheredSize < gathered.length) {
                    gathered[gatheredSize] = frame;
                    gatheredSize++;
                }
            }
            return gatheredSize;
        }

        int gatheredObject(int i) {
            return i >= 0 && i < gathered.length ? gathered[i] / PAGE_LIMIT : 0;
        }

        int gatheredPage(int i) {
            return i >= 0 && i < gathered.length ? gathered[i] % PAGE_LIMIT : 0;
        }

        int agreeing(World world, int what, int v) {
            int total = 0;
            for (int i = 0; i < gatheredSize && i < gathered.length; i++) {
                total += agrees(world, what, v, gathered[i]) ? 1 : 0;
            }
            return total;
        }

        private boolean fitsAll(World world, int frame) {
            for (int i = 0; i < size && i < LIMIT; i++) {
                if (!agrees(world, whats[i], numbers[i], frame)) {
                    return false;
                }
            }
            return true;
        }

        private static boolean agrees(World world, int what, int v, int frame) {
            int object = frame / PAGE_LIMIT;
            int page = frame % PAGE_LIMIT;
            switch (what) {
                case 0:
                    return object == v;
                case 1:
                    return page == v;
                case 2:
                    return world.valueOf(object, page) >= 10 * v;
                default:
                    return world.firstHolder(v, page) == object;
            }
        }
    }

    /** What was seen of tidying, and the laws that fit it. */
    private static final class Sightings {
        static final int LAW_SIDE = 7;
        static final int MOST_OBJECTS = 9;
        private static final int LIMIT = 10;

        private final int[] lengths = new int[LIMIT];
        private final int[] helds = new int[LIMIT];
        private final boolean[] tidied = new boolean[LIMIT];
        private final boolean[] agreed = new boolean[LAW_SIDE * LAW_SIDE];
        private int size;

        int see(int n, int t, int is) {
            if (n < 0 || n > MOST_OBJECTS || t < 0 || t > PAGE_LIMIT || is < 0 || is > 1) {
                return NONE;
            }
            if (size < 0 || size >= LIMIT) {
                return NONE;
            }
            lengths[size] = n;
            helds[size] = t;
            tidied[size] = is == 1;
            size++;
            return size;
        }

        int empty() {
            int before = size;
            size = 0;
            return before;
        }

        int total() {
            return size;
        }

        boolean agreeWith(int a, int b) {
            for (int i = 0; i < size && i < LIMIT; i++) {
                if (says(a, b, lengths[i], helds[i]) != tidied[i]) {
                    return false;
                }
            }
            return true;
        }

        int gather() {
            int total = 0;
            for (int law = 0; law < agreed.length; law++) {
                agreed[law] = agreeWith(law / LAW_SIDE, law % LAW_SIDE);
                total += agreed[law] ? 1 : 0;
            }
            return total;
        }

        /** Of the laws that were gathered. */
        int tidying(int n, int t) {
            int total = 0;
            for (int law = 0; law < agreed.length; law++) {
                total += agreed[law] && says(law / LAW_SIDE, law % LAW_SIDE, n, t) ? 1 : 0;
            }
            return total;
        }

        private static boolean says(int a, int b, int n, int t) {
            return n > a && t >= b;
        }
    }

    /** The game of pages, by the numbers that say what a row is worth: rows of like worth undo each other. */
    private static final class PageGame {
        static final int LONGEST = 60;
        static final int MOST_TAKEN = 3;

        private final int[] worth = new int[LONGEST + 1];

        void weigh(int longest) {
            for (int n = 0; n <= longest && n < worth.length; n++) {
                worth[n] = leastWorthNotReached(n);
            }
        }

        boolean isLost(int left, int right) {
            return worthOf(left) == worthOf(right);
        }

        private int worthOf(int n) {
            return n >= 0 && n < worth.length ? worth[n] : 0;
        }

        /** No worth comes near 64 with rows of 60 (they stay below 16), so a long holds the set. */
        private int leastWorthNotReached(int n) {
            long reached = 0;
            for (int taken = 1; taken <= MOST_TAKEN && taken <= n; taken++) {
                for (int left = 0; left <= n - taken; left++) {
                    reached |= 1L << (worthOf(left) ^ worthOf(n - taken - left));
                }
            }
            return Long.numberOfTrailingZeros(~reached);
        }
    }

    /** Writers at rest. */
    private static final class Rests {
        static final int MOST_WRITES = 9;
        static final int MOST_WORTH = 20;

        static boolean isBest(int v, int mine, int others) {
            int now = gain(v, mine, others);
            for (int another = 0; another <= MOST_WRITES; another++) {
                if (gain(v, another, others) > now) {
                    return false;
                }
            }
            return true;
        }

        private static int gain(int v, int mine, int others) {
            if (mine < others) {
                return v - mine;
            }
            return mine > others ? v / 2 - 2 * (mine - others) : v / 3 - mine;
        }
    }

    /** Numbers drawn by a seed. */
    private static final class Draws {
        private int state;

        Draws(int seed) {
            state = seed;
        }

        int draw(int n) {
            state = state * 1103515245 + 12345;
            return n > 0 ? (state >>> 16) % n : 0;
        }
    }
}
