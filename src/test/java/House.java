/** Houses for the tests of boundary cases, and all that can be asked of one. */
final class House {
    /** Numbers that are none of a register. */
    static final int[] NO_REGISTER = {-1, 32, 33, 1 << 30, Integer.MIN_VALUE, Integer.MAX_VALUE};
    static final int ROOMY = 20000;

    private House() {
    }

    static DecisionWeb empty(int n, int capacity) {
        DecisionWeb web = new DecisionWeb();
        if (!web.fresh(n, capacity)) {
            throw new IllegalStateException("fresh(" + n + ", " + capacity + ") is refused");
        }
        return web;
    }

    /** Register v is letter v. */
    static DecisionWeb ofLetters(int n, int capacity) {
        DecisionWeb web = empty(n, capacity);
        for (int v = 0; v < n; v++) {
            web.letter(v, v);
        }
        return web;
    }

    /**
     * Of up to 5 letters: register r becomes the function whose bit x tells of assignment x. Registers
     * 24 to 31 are used, and left all no.
     */
    static void set(DecisionWeb web, int r, long table) {
        web.constant(31, true);
        web.constant(30, false);
        int made = build(web, web.count(0), table, 24);
        web.copy(r, made);
        for (int used = 24; used < 32; used++) {
            if (used != r) {
                web.constant(used, false);
            }
        }
    }

    /** The register in which the function of the first letters is, being made in 'into' and those behind it. */
    private static int build(DecisionWeb web, int letters, long table, int into) {
        if (letters == 0) {
            return (table & 1) != 0 ? 31 : 30;
        }
        int half = 1 << letters - 1;
        long without = table & (1L << half) - 1;
        long with = table >>> half & (1L << half) - 1;
        if (with == without) {
            return build(web, letters - 1, with, into);
        }
        int high = build(web, letters - 1, with, into);
        int low = build(web, letters - 1, without, high == into ? into + 1 : into);
        web.letter(29, letters - 1);
        web.fork(into, 29, high, low);
        return into;
    }

    /** Bit x is what register r tells of assignment x. */
    static long table(DecisionWeb web, int r) {
        long told = 0;
        for (int x = 0; x < 1 << web.count(0); x++) {
            told |= (long) web.tells(r, x) << x;
        }
        return told;
    }

    static String order(DecisionWeb web) {
        StringBuilder told = new StringBuilder();
        for (int k = 0; k < web.count(0); k++) {
            told.append(k == 0 ? "" : " ").append(web.level(k, 0));
        }
        return told.toString();
    }

    static String widths(DecisionWeb web, int r) {
        StringBuilder told = new StringBuilder();
        for (int k = 0; k < web.count(0); k++) {
            told.append(k == 0 ? "" : " ").append(web.width(r, k));
        }
        return told.toString();
    }

    static String widthsOfAll(DecisionWeb web) {
        StringBuilder told = new StringBuilder();
        for (int k = 0; k < web.count(0); k++) {
            told.append(k == 0 ? "" : " ").append(web.level(k, 1));
        }
        return told.toString();
    }

    /** All that there is to ask of a house of up to 6 letters. The web is spent by it: pointer and costs are altered. */
    static String state(DecisionWeb web) {
        StringBuilder told = new StringBuilder("pointer ").append(web.at());
        while (web.go(true)) {
            told.append(' ').append(web.at());
        }
        for (int what = 0; what < 4; what++) {
            told.append(" count ").append(web.count(what));
        }
        told.append(" order ").append(order(web)).append(" widths ").append(widthsOfAll(web)).append(" costs");
        for (int v = 0; v < web.count(0); v++) {
            told.append(' ').append(web.cost(v, 0));
        }
        for (int r = 0; r < 32; r++) {
            boolean settled = web.letters(r) == 0;
            told.append(' ').append(settled ? web.tells(r, 0) : table(web, r));
        }
        return told.toString();
    }
}
