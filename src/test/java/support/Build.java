/** Objects in states that take many calls to come to: full of OBJECTS, of FRAMES, of SPACES. THE RULE is 0 then. */
final class Build {
    private Build() {
    }

    /** A new object with these SPACES, where nothing is TIDIED by a WRITE. */
    static ShadowSpaces calm(String... spaces) {
        return ruled("0", spaces);
    }

    static ShadowSpaces ruled(String rule, String... spaces) {
        ShadowSpaces x = Check.with(spaces);
        Check.rule(x, rule);
        return x;
    }

    /** n OBJECTS more in the CHAIN of a SPACE with PAGER 0; each HOLDS PAGE 0. One SPACE comes and ends each time. */
    static ShadowSpaces deepen(ShadowSpaces x, int space, int n) {
        for (int i = 0; i < n; i++) {
            layer(x, space, 1);
        }
        return x;
    }

    /** FRAMES up to a number of all, in as few OBJECTS more as can be. */
    static ShadowSpaces fill(ShadowSpaces x, int space, int frames) {
        for (int i = 0; i < 24 && x.count(2) < frames; i++) {
            layer(x, space, Math.min(8, frames - x.count(2)));
        }
        return x;
    }

    /** OBJECTS and FRAMES up to numbers of all. */
    static ShadowSpaces crowd(ShadowSpaces x, int space, int objects, int frames) {
        for (int left = objects - Integer.bitCount(x.count(1)); left > 0; left--) {
            layer(x, space, Math.max(1, (frames - x.count(2)) / left));
        }
        return x;
    }

    /** SPACES up to 6, of PAGER 0: no OBJECT comes. */
    static ShadowSpaces fork(ShadowSpaces x, int space) {
        for (int i = 0; i < 6 && x.count(0) != 63; i++) {
            x.forks(space);
        }
        return x;
    }

    private static void layer(ShadowSpaces x, int space, int pages) {
        int other = x.forks(space);
        for (int page = 0; page < pages; page++) {
            x.writes(space, page, 10 + page);
        }
        x.ends(other);
    }
}
