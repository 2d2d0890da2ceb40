/** Each promise of the document: ordinary inputs, the edges that it names, and wrong inputs. */
public final class PromisesTest {
    private static final int LEAST = Integer.MIN_VALUE;
    private static final int MOST = Integer.MAX_VALUE;
    private static final int[] NO_REGISTER = {-1, 32, LEAST, MOST};

    private static final Check CHECK = new Check("PromisesTest");
    private static int promise = 0;

    public static void main(String[] args) {
        promise1NewObject();
        promise2Fresh();
        promise3Constant();
        promise4Letter();
        promise5Join();
        promise6Fork();
        promise7Fix();
        promise8Put();
        promise9Sum();
        promise10Trade();
        promise11Near();
        promise12Copy();
        promise13Swap();
        promise14Sift();
        promise15Cost();
        promise16Same();
        promise17Tells();
        promise18Many();
        promise19Pick();
        promise20Cheapest();
        promise21Dearest();
        promise22Letters();
        promise23Size();
        promise24Width();
        promise25Point();
        promise26Go();
        promise27At();
        promise28Level();
        promise29Count();
        aDozenLetters();
        oneLetter();
        allOfTwoLetters(14, 0);
        allOfTwoLetters(13, 1);
        CHECK.end();
    }

    private static void due(String call, long got, long want) {
        CHECK.due("promise " + promise + ": " + call, got, want);
    }

    private static void due(String call, boolean got, boolean want) {
        CHECK.due("promise " + promise + ": " + call, got, want);
    }

    /** Register r is told as a mask: bit x is what it tells of assignment x. */
    private static void dueTable(String call, DecisionWeb web, int r, long want) {
        long got = 0;
        for (int x = 0; x < 1 << web.count(0); x++) {
            got |= (long) web.tells(r, x) << x;
        }
        due("the table of register " + r + " behind " + call, got, want);
    }

    /** Registers 0 to n - 1 are the letters. */
    private static DecisionWeb house(int n, int capacity) {
        DecisionWeb web = new DecisionWeb();
        due("fresh", web.fresh(n, capacity), true);
        for (int v = 0; v < n; v++) {
            due("letter", web.letter(v, v), 0);
        }
        return web;
    }

    /** Over four letters: register r is "0 and 2, or 1 and 3", which has 6 forks, and 4 with 0 and 2 side by side. */
    private static void pairs(DecisionWeb web, int r) {
        due("join", web.join(30, 0, 2, 8), 0);
        due("join", web.join(r, 1, 3, 8), 0);
        due("join", web.join(r, r, 30, 14), 0);
        due("constant", web.constant(30, false), 0);
    }

    private static void promise1NewObject() {
        promise = 1;
        DecisionWeb web = new DecisionWeb();
        due("count(0)", web.count(0), 6);
        due("count(1)", web.count(1), 2000);
        due("count(2)", web.count(2), 0);
        due("count(3)", web.count(3), 0);
        due("at()", web.at(), -2);
        for (int v = 0; v < 6; v++) {
            due("level(v, 0)", web.level(v, 0), v);
            due("cost(v, 0)", web.cost(v, 0), 0);
        }
        for (int r = 0; r < 32; r++) {
            due("many(r)", web.many(r), 0);
        }
        due("letter(0, 5)", web.letter(0, 5), 0);
        due("letter(0, 6)", web.letter(0, 6), -2);
        due("another object has its own memory", new DecisionWeb().many(0), 0);
    }

    private static void promise2Fresh() {
        promise = 2;
        DecisionWeb web = house(4, 100);
        web.cost(2, 7);
        web.swap(1);
        web.point(3);
        int[][] wrong = {{0, 5}, {-1, 5}, {13, 5}, {LEAST, 5}, {MOST, 5}, {4, -1}, {4, 20001}, {4, LEAST}, {4, MOST}, {0, -1}};
        for (int[] w : wrong) {
            due("fresh(" + w[0] + ", " + w[1] + ")", web.fresh(w[0], w[1]), false);
        }
        due("count(0)", web.count(0), 4);
        due("count(1)", web.count(1), 100);
        due("count(3)", web.count(3), 4);
        due("level(1, 0)", web.level(1, 0), 2);
        due("at() stays where it was", web.at(), 3);
        due("cost(2, 7)", web.cost(2, 7), 7);
        due("fresh(4, 0)", web.fresh(4, 0), true);
        due("at()", web.at(), -2);
        due("count(1)", web.count(1), 0);
        due("count(3)", web.count(3), 0);
        due("level(1, 0)", web.level(1, 0), 1);
        due("cost(2, 0)", web.cost(2, 0), 0);
        due("letter(0, 0) with no room", web.letter(0, 0), -8);
        due("constant(0, true) with no room", web.constant(0, true), 0);
        due("fresh(12, 20000)", web.fresh(12, 20000), true);
        due("many(0)", web.many(0), 0);
        due("fresh(1, 20000)", web.fresh(1, 20000), true);
        due("count(0)", web.count(0), 1);
        due("level(1, 0)", web.level(1, 0), -1);
    }

    private static void promise3Constant() {
        promise = 3;
        DecisionWeb web = house(3, 3);
        due("constant(31, true)", web.constant(31, true), 0);
        due("many(31)", web.many(31), 8);
        due("constant(31, false)", web.constant(31, false), 0);
        due("many(31)", web.many(31), 0);
        due("constant(0, true) of a full house", web.constant(0, true), 0);
        due("count(2)", web.count(2), 2);
        for (int r : NO_REGISTER) {
            due("constant(" + r + ", true)", web.constant(r, true), -2);
        }
    }

    private static void promise4Letter() {
        promise = 4;
        DecisionWeb web = house(3, 3);
        dueTable("letter(0, 0)", web, 0, 0xAA);
        dueTable("letter(1, 1)", web, 1, 0xCC);
        dueTable("letter(2, 2)", web, 2, 0xF0);
        due("letter(5, 1), a fork that is there", web.letter(5, 1), 0);
        due("count(2)", web.count(2), 3);
        due("letter(0, 3)", web.letter(0, 3), -2);
        due("letter(0, -1)", web.letter(0, -1), -2);
        due("letter(0, MOST)", web.letter(0, MOST), -2);
        for (int r : NO_REGISTER) {
            due("letter(" + r + ", 0)", web.letter(r, 0), -2);
        }
        due("fresh(3, 1)", web.fresh(3, 1), true);
        due("letter(0, 2)", web.letter(0, 2), 0);
        due("letter(1, 1)", web.letter(1, 1), -8);
        due("many(1)", web.many(1), 0);
        due("letter(1, 3) is -2 ahead of -8", web.letter(1, 3), -2);
        due("letter(0, 1) in its own room", web.letter(0, 1), 0);
    }

    private static void promise5Join() {
        promise = 5;
        DecisionWeb web = house(2, 50);
        for (int table = 0; table < 16; table++) {
            due("join(5, 0, 1, table)", web.join(5, 0, 1, table), 0);
            // assignment 0 is both no, 1 letter 0 alone, 2 letter 1 alone, 3 both: so the table itself
            dueTable("join(5, 0, 1, " + table + ")", web, 5, table);
        }
        due("join(0, 0, 1, 2)", web.join(0, 0, 1, 2), 0);
        dueTable("join(0, 0, 1, 2)", web, 0, 2);
        due("join(1, 0, 1, 4)", web.join(1, 0, 1, 4), 0);
        dueTable("join(1, 0, 1, 4): 0 is 'letter 0 alone' by now", web, 1, 0xC);
        due("join(2, 1, 1, 1)", web.join(2, 1, 1, 1), 0);
        dueTable("join(2, 1, 1, 1)", web, 2, 0x3);
        int[] wrong = {-1, 16, LEAST, MOST};
        for (int table : wrong) {
            due("join(0, 0, 0, " + table + ")", web.join(0, 0, 0, table), -2);
        }
        for (int r : NO_REGISTER) {
            due("join r", web.join(r, 0, 0, 8), -2);
            due("join a", web.join(0, r, 0, 8), -2);
            due("join b", web.join(0, 0, r, 8), -2);
        }
        web = house(3, 4);
        due("join(3, 0, 1, 8)", web.join(3, 0, 1, 8), 0);
        due("join(4, 0, 1, 6)", web.join(4, 0, 1, 6), -8);
        due("join(4, 0, 1, 16) is -2 ahead of -8", web.join(4, 0, 1, 16), -2);
        due("many(4)", web.many(4), 0);
        due("count(2)", web.count(2), 4);
    }

    private static void promise6Fork() {
        promise = 6;
        DecisionWeb web = house(3, 50);
        due("fork(3, 0, 1, 2)", web.fork(3, 0, 1, 2), 0);
        dueTable("fork(3, 0, 1, 2)", web, 3, 0xAA & 0xCC | 0x55 & 0xF0);
        due("fork(0, 0, 2, 1)", web.fork(0, 0, 2, 1), 0);
        dueTable("fork(0, 0, 2, 1)", web, 0, 0xAA & 0xF0 | 0x55 & 0xCC);
        due("fork(4, 5, 1, 2), a being all no", web.fork(4, 5, 1, 2), 0);
        due("same(4, 2)", web.same(4, 2), 1);
        for (int r : NO_REGISTER) {
            due("fork r", web.fork(r, 0, 1, 2), -2);
            due("fork a", web.fork(3, r, 1, 2), -2);
            due("fork b", web.fork(3, 0, r, 2), -2);
            due("fork c", web.fork(3, 0, 1, r), -2);
        }
        web = house(3, 3);
        due("fork(3, 0, 1, 2)", web.fork(3, 0, 1, 2), -8);
        due("many(3)", web.many(3), 0);
        due("fork(0, 0, 1, 2)", web.fork(0, 0, 1, 2), 0);
        due("count(2)", web.count(2), 3);
    }

    private static void promise7Fix() {
        promise = 7;
        DecisionWeb web = house(3, 50);
        web.fork(3, 1, 0, 2);
        due("fix(4, 3, 1, true)", web.fix(4, 3, 1, true), 0);
        due("same(4, 0)", web.same(4, 0), 1);
        due("fix(4, 3, 1, false)", web.fix(4, 3, 1, false), 0);
        due("same(4, 2)", web.same(4, 2), 1);
        due("fix(3, 3, 2, true)", web.fix(3, 3, 2, true), 0);
        dueTable("fix(3, 3, 2, true)", web, 3, 0xCC & 0xAA | 0x33);
        due("fix(3, 3, 2, false), which it does not tell any more", web.fix(3, 3, 2, false), 0);
        dueTable("fix(3, 3, 2, false)", web, 3, 0xCC & 0xAA | 0x33);
        due("fix(0, 0, 3, true)", web.fix(0, 0, 3, true), -2);
        due("fix(0, 0, -1, true)", web.fix(0, 0, -1, true), -2);
        for (int r : NO_REGISTER) {
            due("fix r", web.fix(r, 0, 0, true), -2);
            due("fix a", web.fix(0, r, 0, true), -2);
        }
        web = house(3, 3);
        due("fork(0, 0, 1, 2) shares the forks of 1 and 2", web.fork(0, 0, 1, 2), 0);
        due("fix(3, 0, 0, true)", web.fix(3, 0, 0, true), 0);
        due("same(3, 1)", web.same(3, 1), 1);
        web.constant(3, false);
        due("fix(3, 0, 2, false)", web.fix(3, 0, 2, false), -8);
        due("many(3)", web.many(3), 0);
        due("fix(3, 0, 3, false) is -2 ahead of -8", web.fix(3, 0, 3, false), -2);
    }

    private static void promise8Put() {
        promise = 8;
        DecisionWeb web = house(3, 50);
        web.join(3, 0, 1, 6);
        web.join(4, 1, 2, 8);
        due("put(5, 3, 0, 4)", web.put(5, 3, 0, 4), 0);
        dueTable("put(5, 3, 0, 4)", web, 5, 0xCC & 0xF0 ^ 0xCC);
        due("put(5, 3, 2, 4), by which it does not differ", web.put(5, 3, 2, 4), 0);
        due("same(5, 3)", web.same(5, 3), 1);
        web.join(6, 1, 1, 1);
        due("put(5, 3, 1, 6): b tells of the same letter", web.put(5, 3, 1, 6), 0);
        dueTable("put(5, 3, 1, 6)", web, 5, 0xAA ^ 0x33);
        due("put(3, 3, 0, 3)", web.put(3, 3, 0, 3), 0);
        dueTable("put(3, 3, 0, 3): 0 other than 1, other than 1", web, 3, 0xAA);
        due("put(0, 0, 3, 1)", web.put(0, 0, 3, 1), -2);
        due("put(0, 0, -1, 1)", web.put(0, 0, -1, 1), -2);
        for (int r : NO_REGISTER) {
            due("put r", web.put(r, 0, 0, 1), -2);
            due("put a", web.put(0, r, 0, 1), -2);
            due("put b", web.put(0, 0, 0, r), -2);
        }
        web = house(3, 4);
        web.join(3, 1, 2, 8);
        due("put(4, 3, 1, 0)", web.put(4, 3, 1, 0), -8);
        due("many(4)", web.many(4), 0);
        due("put(3, 3, 1, 0)", web.put(3, 3, 1, 0), 0);
        dueTable("put(3, 3, 1, 0)", web, 3, 0xAA & 0xF0);
    }

    private static void promise9Sum() {
        promise = 9;
        DecisionWeb web = house(3, 50);
        web.fork(3, 0, 1, 2);
        due("sum(4, 3, 1, false)", web.sum(4, 3, 1, false), 0);
        dueTable("sum(4, 3, 1, false)", web, 4, 0xCC | 0xF0);
        due("sum(4, 3, 1, true)", web.sum(4, 3, 1, true), 0);
        dueTable("sum(4, 3, 1, true)", web, 4, 0xCC & 0xF0);
        due("sum(4, 3, 6, false)", web.sum(4, 3, 6, false), 0);
        due("many(4)", web.many(4), 8);
        due("sum(4, 3, 4, true)", web.sum(4, 3, 4, true), 0);
        dueTable("sum(4, 3, 4, true)", web, 4, 0xAA & 0xCC);
        due("sum(4, 3, 7, true)", web.sum(4, 3, 7, true), 0);
        due("many(4)", web.many(4), 0);
        due("sum(4, 3, 0, true)", web.sum(4, 3, 0, true), 0);
        due("same(4, 3)", web.same(4, 3), 1);
        due("sum(3, 3, 5, false)", web.sum(3, 3, 5, false), 0);
        due("many(3)", web.many(3), 8);
        int[] wrong = {-1, 8, LEAST, MOST};
        for (int mask : wrong) {
            due("sum(0, 0, " + mask + ", true)", web.sum(0, 0, mask, true), -2);
        }
        for (int r : NO_REGISTER) {
            due("sum r", web.sum(r, 0, 1, true), -2);
            due("sum a", web.sum(0, r, 1, true), -2);
        }
        web = house(3, 3);
        due("fork(0, 0, 1, 2)", web.fork(0, 0, 1, 2), 0);
        due("sum(3, 0, 1, true)", web.sum(3, 0, 1, true), -8);
        due("sum(3, 0, 8, true) is -2 ahead of -8", web.sum(3, 0, 8, true), -2);
        due("many(3)", web.many(3), 0);
    }

    private static void promise10Trade() {
        promise = 10;
        DecisionWeb web = house(3, 50);
        web.join(3, 0, 2, 2);
        due("trade(4, 3, 0, 2)", web.trade(4, 3, 0, 2), 0);
        dueTable("trade(4, 3, 0, 2)", web, 4, 0xF0 & 0x55);
        due("trade(4, 3, 2, 0)", web.trade(4, 3, 2, 0), 0);
        dueTable("trade(4, 3, 2, 0)", web, 4, 0xF0 & 0x55);
        due("trade(4, 3, 1, 0)", web.trade(4, 3, 1, 0), 0);
        dueTable("trade(4, 3, 1, 0)", web, 4, 0xCC & 0x0F);
        due("trade(4, 3, 2, 2)", web.trade(4, 3, 2, 2), 0);
        due("same(4, 3)", web.same(4, 3), 1);
        due("trade(3, 3, 1, 2)", web.trade(3, 3, 1, 2), 0);
        dueTable("trade(3, 3, 1, 2)", web, 3, 0xAA & 0x33);
        due("trade(0, 0, 3, 0)", web.trade(0, 0, 3, 0), -2);
        due("trade(0, 0, 0, 3)", web.trade(0, 0, 0, 3), -2);
        due("trade(0, 0, -1, 0)", web.trade(0, 0, -1, 0), -2);
        due("trade(0, 0, 0, MOST)", web.trade(0, 0, 0, MOST), -2);
        for (int r : NO_REGISTER) {
            due("trade r", web.trade(r, 0, 0, 1), -2);
            due("trade a", web.trade(0, r, 0, 1), -2);
        }
        due("fresh(3, 1)", web.fresh(3, 1), true);
        web.letter(0, 0);
        due("trade(1, 0, 0, 1)", web.trade(1, 0, 0, 1), -8);
        due("many(1)", web.many(1), 0);
        due("trade(0, 0, 0, 1)", web.trade(0, 0, 0, 1), 0);
        due("letters(0)", web.letters(0), 2);
    }

    private static void promise11Near() {
        promise = 11;
        DecisionWeb web = house(2, 50);
        // allowed are 0 and 1 both 1 (3) or both 0 (0): letter 0 leads, and letter 1 follows it
        web.join(2, 0, 1, 9);
        due("near(3, 1, 2)", web.near(3, 1, 2), 0);
        due("same(3, 0)", web.same(3, 0), 1);
        due("near(3, 0, 2)", web.near(3, 0, 2), 0);
        due("same(3, 0)", web.same(3, 0), 1);
        due("swap(0)", web.swap(0), 0);
        due("near(3, 0, 2): now letter 1 leads", web.near(3, 0, 2), 0);
        due("same(3, 1)", web.same(3, 1), 1);
        due("near(3, 0, 31)", web.near(3, 0, 31), -3);
        due("same(3, 1)", web.same(3, 1), 1);
        web.constant(4, true);
        due("near(3, 0, 4), all being allowed", web.near(3, 0, 4), 0);
        due("same(3, 0)", web.same(3, 0), 1);
        web.join(5, 0, 1, 2);
        due("near(3, 0, 5), one being allowed", web.near(3, 0, 5), 0);
        due("many(3)", web.many(3), 4);
        due("near(5, 0, 5)", web.near(5, 0, 5), 0);
        due("many(5)", web.many(5), 4);
        for (int r : NO_REGISTER) {
            due("near r is -2 ahead of -3", web.near(r, 0, 31), -2);
            due("near a is -2 ahead of -3", web.near(0, r, 31), -2);
            due("near c", web.near(0, 0, r), -2);
        }
        web = house(3, 3);
        // with letter 0 letter 1 must be 1, without it letter 2: so letter 1 becomes "0 or 1"
        due("fork(0, 0, 1, 2)", web.fork(0, 0, 1, 2), 0);
        due("near(3, 1, 0)", web.near(3, 1, 0), -8);
        due("near(1, 1, 0)", web.near(1, 1, 0), -8);
        dueTable("near(1, 1, 0) that was refused", web, 1, 0xCC);
        due("near(3, 1, 31) is -3 ahead of -8", web.near(3, 1, 31), -3);
        due("many(3)", web.many(3), 0);
        web = house(3, 50);
        web.fork(4, 0, 1, 2);
        due("near(3, 1, 4)", web.near(3, 1, 4), 0);
        dueTable("near(3, 1, 4)", web, 3, 0xAA | 0xCC);
        due("near(3, 2, 4)", web.near(3, 2, 4), 0);
        dueTable("near(3, 2, 4)", web, 3, 0x55 | 0xF0);
        due("near(3, 0, 4)", web.near(3, 0, 4), 0);
        dueTable("near(3, 0, 4)", web, 3, 0xAA);
        due("sift(0), not moving", web.sift(0), 0);
        web.swap(0);
        web.swap(1);
        // order 1 2 0: letter 0 gives way, to 1 where 1 alone is told, to 0 where 2 alone is, and 2 where neither is
        due("near(3, 0, 4)", web.near(3, 0, 4), 0);
        dueTable("near(3, 0, 4)", web, 3, 0xAA & 0xC0 | 0xCC & 0x0F);
        due("near(3, 2, 4)", web.near(3, 2, 4), 0);
        dueTable("near(3, 2, 4)", web, 3, 0xF0 | 0x33);
    }

    private static void promise12Copy() {
        promise = 12;
        DecisionWeb web = house(3, 3);
        due("copy(31, 1)", web.copy(31, 1), 0);
        dueTable("copy(31, 1)", web, 31, 0xCC);
        due("copy(1, 2)", web.copy(1, 2), 0);
        dueTable("copy(1, 2): what it was copied to stays", web, 31, 0xCC);
        due("copy(2, 2)", web.copy(2, 2), 0);
        dueTable("copy(2, 2)", web, 2, 0xF0);
        for (int r : NO_REGISTER) {
            due("copy r", web.copy(r, 0), -2);
            due("copy a", web.copy(0, r), -2);
        }
    }

    private static void promise13Swap() {
        promise = 13;
        DecisionWeb web = house(4, 10);
        pairs(web, 4);
        due("size(4)", web.size(4), 6);
        due("swap(1): 0 2 1 3", web.swap(1), 0);
        due("level(1, 0)", web.level(1, 0), 2);
        due("level(2, 0)", web.level(2, 0), 1);
        due("size(4)", web.size(4), 4);
        due("the functions stay", web.many(4), 7);
        due("tells(4, 5)", web.tells(4, 5), 1);
        due("tells(4, 3)", web.tells(4, 3), 0);
        due("letters(2)", web.letters(2), 4);
        int[] wrong = {-1, 3, 4, LEAST, MOST};
        for (int k : wrong) {
            due("swap(" + k + ")", web.swap(k), -2);
        }
        due("fresh(4, 4)", web.fresh(4, 4), true);
        // register 2 is "0 and 1, or 2 and 3" in four forks, made without ever having five
        web.letter(0, 2);
        web.letter(1, 3);
        web.join(0, 0, 1, 8);
        web.letter(1, 1);
        web.constant(3, true);
        web.fork(1, 1, 3, 0);
        web.letter(2, 0);
        due("fork(2, 2, 1, 0)", web.fork(2, 2, 1, 0), 0);
        due("swap(0) parts registers 1 and 2", web.swap(0), -8);
        web.constant(0, false);
        web.constant(1, false);
        due("count(2)", web.count(2), 4);
        due("swap(1) needs six", web.swap(1), -8);
        for (int k = 0; k < 4; k++) {
            due("level(k, 0) behind a swap that was refused", web.level(k, 0), k);
        }
        dueTable("swap(1) that was refused", web, 2, 0xF888);
        due("size(2)", web.size(2), 4);
        due("swap(0)", web.swap(0), 0);
        due("swap(2)", web.swap(2), 0);
        due("swap(3) is -2 ahead of -8", web.swap(3), -2);
        due("count(2)", web.count(2), 4);
        dueTable("swap(0) and swap(2)", web, 2, 0xF888);
    }

    private static void promise14Sift() {
        promise = 14;
        DecisionWeb web = house(4, 100);
        pairs(web, 4);
        due("sift(2)", web.sift(2), 0);
        due("level(0, 0)", web.level(0, 0), 2);
        due("level(1, 0)", web.level(1, 0), 0);
        due("level(2, 0)", web.level(2, 0), 1);
        due("level(3, 0)", web.level(3, 0), 3);
        due("size(4)", web.size(4), 4);
        due("many(4)", web.many(4), 7);
        due("sift(4)", web.sift(4), -2);
        due("sift(-1)", web.sift(-1), -2);
        due("sift(MOST)", web.sift(MOST), -2);
        web = house(4, 100);
        due("of several the least level", web.sift(3), 0);
        due("level(3, 0)", web.level(3, 0), 2);
        due("sift(3) again", web.sift(3), 0);
        due("fresh(4, 100)", web.fresh(4, 100), true);
        // "with 3 as 0, else as 2": with 3 on top it has three forks, with 3 below five
        web.letter(0, 0);
        web.letter(1, 1);
        web.letter(2, 2);
        web.letter(3, 3);
        web.fork(4, 3, 0, 2);
        for (int r = 0; r < 4; r++) {
            web.constant(r, false);
        }
        due("count(2)", web.count(2), 5);
        due("sift(3)", web.sift(3), 0);
        due("count(2)", web.count(2), 3);
        web = house(4, 100);
        pairs(web, 4);
        // behind 0 and 2 letter 1 costs least, ahead of 3 as well as behind it
        due("sift(1)", web.sift(1), 2);
        due("level(1, 0)", web.level(1, 0), 2);
        due("level(2, 0)", web.level(2, 0), 1);
        due("count(2)", web.count(2), 7);
        web = house(3, 100);
        web.join(3, 1, 2, 8);
        web.constant(0, false);
        web.constant(1, false);
        due("1 and 2 beside 2: two forks with 2 last", web.count(2), 2);
        due("sift(1), which may stand ahead of 0", web.sift(1), 0);
        due("sift(2), which must stand behind 1", web.sift(2), 1);
        due("level(0, 0)", web.level(0, 0), 1);
        due("level(1, 0)", web.level(1, 0), 2);
        due("level(2, 0)", web.level(2, 0), 0);
    }

    private static void promise15Cost() {
        promise = 15;
        DecisionWeb web = house(3, 100);
        due("cost(0, 1000000)", web.cost(0, 1000000), 0);
        due("cost(0, 5)", web.cost(0, 5), 1000000);
        due("cost(0, 0)", web.cost(0, 0), 5);
        due("cost(1, 9)", web.cost(1, 9), 0);
        int[] wrong = {-1, 1000001, LEAST, MOST};
        for (int w : wrong) {
            due("cost(1, " + w + ")", web.cost(1, w), -2);
        }
        due("cost(1, 9)", web.cost(1, 9), 9);
        due("cost(3, 9)", web.cost(3, 9), -2);
        due("cost(-1, 9)", web.cost(-1, 9), -2);
        web.swap(0);
        due("cost(1, 9) is the letter's, not the level's", web.cost(1, 9), 9);
    }

    private static void promise16Same() {
        promise = 16;
        DecisionWeb web = house(3, 100);
        due("same(0, 0)", web.same(0, 0), 1);
        due("same(0, 1)", web.same(0, 1), 0);
        due("same(30, 31)", web.same(30, 31), 1);
        web.join(3, 0, 1, 8);
        web.join(4, 0, 1, 14);
        due("same(3, 4)", web.same(3, 4), 0);
        web.join(5, 4, 3, 8);
        due("same(3, 5)", web.same(3, 5), 1);
        for (int r : NO_REGISTER) {
            due("same a", web.same(r, 0), -2);
            due("same b", web.same(0, r), -2);
        }
    }

    private static void promise17Tells() {
        promise = 17;
        DecisionWeb web = house(3, 100);
        web.join(3, 0, 2, 8);
        web.swap(1);
        for (int x = 0; x < 8; x++) {
            due("tells(3, x)", web.tells(3, x), x == 5 || x == 7 ? 1 : 0);
        }
        int[] wrong = {-1, 8, LEAST, MOST};
        for (int x : wrong) {
            due("tells(3, " + x + ")", web.tells(3, x), -2);
        }
        for (int r : NO_REGISTER) {
            due("tells a", web.tells(r, 0), -2);
        }
    }

    private static void promise18Many() {
        promise = 18;
        DecisionWeb web = house(3, 100);
        web.join(3, 0, 1, 14);
        due("many(3)", web.many(3), 6);
        due("many(4)", web.many(4), 0);
        web.constant(4, true);
        due("many(4)", web.many(4), 8);
        web.join(4, 4, 3, 1);
        due("many(4)", web.many(4), 0);
        for (int r : NO_REGISTER) {
            due("many a", web.many(r), -2);
        }
    }

    private static void promise19Pick() {
        promise = 19;
        DecisionWeb web = house(3, 100);
        web.join(3, 1, 2, 6);
        web.swap(0);
        web.swap(1);
        int[] yes = {2, 3, 4, 5};
        for (int i = 0; i < 4; i++) {
            due("pick(3, i)", web.pick(3, i), yes[i]);
        }
        int[] none = {4, -1, LEAST, MOST};
        for (int i : none) {
            due("pick(3, " + i + ")", web.pick(3, i), -1);
        }
        due("pick(31, 0)", web.pick(31, 0), -1);
        for (int r : NO_REGISTER) {
            due("pick a", web.pick(r, 0), -2);
            due("pick a and i", web.pick(r, -1), -2);
        }
    }

    private static void promise20Cheapest() {
        promise = 20;
        DecisionWeb web = house(3, 100);
        web.join(3, 0, 1, 14);
        due("cheapest(3), all costs being 0", web.cheapest(3), 1);
        web.swap(0);
        due("cheapest(3): the least number, whatever the order", web.cheapest(3), 1);
        web.cost(0, 5);
        due("cheapest(3)", web.cheapest(3), 2);
        web.cost(1, 5);
        due("cheapest(3)", web.cheapest(3), 1);
        web.cost(1, 4);
        due("cheapest(3)", web.cheapest(3), 2);
        due("cheapest(31)", web.cheapest(31), -1);
        web.constant(31, true);
        due("cheapest(31)", web.cheapest(31), 0);
        for (int r : NO_REGISTER) {
            due("cheapest a", web.cheapest(r), -2);
        }
    }

    private static void promise21Dearest() {
        promise = 21;
        DecisionWeb web = house(3, 100);
        web.join(3, 0, 1, 6);
        due("dearest(3), all costs being 0", web.dearest(3), 0);
        web.cost(0, 5);
        web.cost(1, 4);
        web.cost(2, 1000000);
        due("dearest(3)", web.dearest(3), 1000005);
        due("dearest(31)", web.dearest(31), -1);
        web.constant(31, true);
        due("dearest(31)", web.dearest(31), 1000009);
        web.join(4, 3, 2, 14);
        web.join(4, 4, 4, 1);
        due("letters 0 and 1 alike, 2 not", web.dearest(4), 9);
        web.join(4, 0, 1, 1);
        web.join(4, 4, 2, 2);
        due("dearest(4), none of them being 1", web.dearest(4), 0);
        for (int r : NO_REGISTER) {
            due("dearest a", web.dearest(r), -2);
        }
    }

    private static void promise22Letters() {
        promise = 22;
        DecisionWeb web = house(4, 100);
        web.join(4, 0, 3, 8);
        due("letters(4)", web.letters(4), 9);
        web.swap(2);
        due("letters(4): of letters, not levels", web.letters(4), 9);
        web.join(4, 4, 3, 14);
        due("letters(4): 0 does not matter any more", web.letters(4), 8);
        due("letters(31)", web.letters(31), 0);
        web.constant(31, true);
        due("letters(31)", web.letters(31), 0);
        for (int r : NO_REGISTER) {
            due("letters a", web.letters(r), -2);
        }
    }

    private static void promise23Size() {
        promise = 23;
        DecisionWeb web = house(4, 100);
        due("size(0)", web.size(0), 1);
        due("size(31)", web.size(31), 0);
        pairs(web, 4);
        due("size(4)", web.size(4), 6);
        web.join(5, 0, 1, 6);
        web.join(5, 5, 2, 6);
        web.join(5, 5, 3, 6);
        due("size(5), whether they are odd", web.size(5), 7);
        web.join(6, 5, 5, 1);
        due("size(6), whether they are even", web.size(6), 7);
        for (int r : NO_REGISTER) {
            due("size a", web.size(r), -2);
        }
    }

    private static void promise24Width() {
        promise = 24;
        DecisionWeb web = house(4, 100);
        pairs(web, 4);
        int[] widths = {1, 2, 2, 1};
        for (int k = 0; k < 4; k++) {
            due("width(4, " + k + ")", web.width(4, k), widths[k]);
            due("width(31, " + k + ")", web.width(31, k), 0);
            due("width(1, " + k + ")", web.width(1, k), k == 1 ? 1 : 0);
        }
        int[] wrong = {-1, 4, LEAST, MOST};
        for (int k : wrong) {
            due("width(4, " + k + ")", web.width(4, k), -2);
        }
        for (int r : NO_REGISTER) {
            due("width a", web.width(r, 0), -2);
        }
    }

    private static void promise25Point() {
        promise = 25;
        DecisionWeb web = house(4, 100);
        due("point(2)", web.point(2), 0);
        due("at()", web.at(), 2);
        for (int r : NO_REGISTER) {
            due("point a", web.point(r), -2);
        }
        due("at() stays", web.at(), 2);
        due("point(31)", web.point(31), 0);
        due("at()", web.at(), -2);
        web.constant(31, true);
        due("point(31)", web.point(31), 0);
        due("at()", web.at(), -3);
    }

    private static void promise26Go() {
        promise = 26;
        DecisionWeb web = house(4, 100);
        due("go(true) from all no", web.go(true), false);
        web.join(4, 1, 3, 2);
        web.point(4);
        due("at(), the first that matters", web.at(), 1);
        due("go(true)", web.go(true), true);
        due("at()", web.at(), 3);
        due("go(true)", web.go(true), true);
        due("at()", web.at(), -2);
        due("go(false)", web.go(false), false);
        due("at()", web.at(), -2);
        web.point(4);
        due("go(true)", web.go(true), true);
        due("go(false)", web.go(false), true);
        due("at()", web.at(), -3);
        due("go(true)", web.go(true), false);
        due("at()", web.at(), -3);
        web.point(4);
        due("go(false)", web.go(false), true);
        due("at()", web.at(), -2);
    }

    private static void promise27At() {
        promise = 27;
        DecisionWeb web = new DecisionWeb();
        due("at() at first", web.at(), -2);
        web.letter(0, 3);
        web.letter(1, 4);
        String[] done = {
            "fresh", "constant", "letter", "join", "fork", "fix", "put", "sum", "trade", "near", "copy", "swap", "sift"
        };
        for (int i = 0; i < done.length; i++) {
            web.fresh(6, 2000);
            web.letter(0, 3);
            web.letter(1, 4);
            web.point(0);
            due("at()", web.at(), 3);
            dueDone(web, i);
            due("at() behind " + done[i], web.at(), -2);
            web.fresh(6, 2);
            web.letter(0, 3);
            web.letter(1, 4);
            web.point(0);
            callRefused(web, i);
            due("at() behind " + done[i] + " that was refused", web.at(), 3);
        }
        due("the pointer does not rest at a register", web.letter(31, 4), 0);
        due("at()", web.at(), -2);
        web.point(0);
        web.cost(3, 4);
        web.same(0, 1);
        web.pick(0, 3);
        web.cheapest(0);
        web.size(0);
        web.level(0, 1);
        web.count(2);
        due("at() behind others", web.at(), 3);
    }

    private static void dueDone(DecisionWeb web, int which) {
        int got = switch (which) {
            case 0 -> web.fresh(6, 2000) ? 0 : 1;
            case 1 -> web.constant(9, false);
            case 2 -> web.letter(9, 0);
            case 3 -> web.join(9, 0, 1, 8);
            case 4 -> web.fork(9, 0, 1, 2);
            case 5 -> web.fix(9, 0, 0, true);
            case 6 -> web.put(9, 0, 3, 1);
            case 7 -> web.sum(9, 0, 0, true);
            case 8 -> web.trade(9, 0, 2, 2);
            case 9 -> web.near(9, 0, 1);
            case 10 -> web.copy(0, 0);
            case 11 -> web.swap(0);
            default -> web.sift(0);
        };
        due("call " + which + " is done", got, 0);
    }

    private static void callRefused(DecisionWeb web, int which) {
        int got = switch (which) {
            case 0 -> web.fresh(13, 2000) ? 0 : -2;
            case 1 -> web.constant(32, false);
            case 2 -> web.letter(9, 0);
            case 3 -> web.join(9, 0, 1, 8);
            case 4 -> web.fork(9, 0, 1, 2);
            case 5 -> web.fix(9, 0, 6, true);
            case 6 -> web.put(9, 0, 6, 1);
            case 7 -> web.sum(9, 0, 64, true);
            case 8 -> web.trade(9, 0, 2, 3);
            case 9 -> web.near(9, 0, 20);
            case 10 -> web.copy(0, 32);
            case 11 -> web.swap(5);
            default -> web.sift(6);
        };
        due("call " + which + " is refused", got < 0, true);
    }

    private static void promise28Level() {
        promise = 28;
        DecisionWeb web = house(4, 100);
        for (int r = 0; r < 4; r++) {
            web.copy(10 + r, r);
        }
        pairs(web, 4);
        // the letters' own forks are each there once; those of 2 and 3 stand in the pairs too
        int[] widths = {2, 3, 2, 1};
        for (int k = 0; k < 4; k++) {
            due("level(" + k + ", 0)", web.level(k, 0), k);
            due("level(" + k + ", 1)", web.level(k, 1), widths[k]);
        }
        web.swap(0);
        due("level(0, 0)", web.level(0, 0), 1);
        due("level(1, 0)", web.level(1, 0), 0);
        int[] wrong = {-1, 4, LEAST, MOST};
        for (int k : wrong) {
            due("level(" + k + ", 0)", web.level(k, 0), -1);
            due("level(" + k + ", 1)", web.level(k, 1), -1);
        }
        int[] other = {-1, 2, LEAST, MOST};
        for (int what : other) {
            due("level(0, " + what + ")", web.level(0, what), -1);
        }
    }

    private static void promise29Count() {
        promise = 29;
        DecisionWeb web = house(4, 100);
        pairs(web, 4);
        web.constant(31, true);
        due("count(0)", web.count(0), 4);
        due("count(1)", web.count(1), 100);
        due("count(2)", web.count(2), 8);
        due("count(3)", web.count(3), 5);
        web.copy(20, 4);
        due("count(2)", web.count(2), 8);
        due("count(3)", web.count(3), 6);
        due("fresh(4, 2)", web.fresh(4, 2), true);
        web.letter(31, 3);
        web.letter(0, 2);
        due("count(2): the first and the last register count too", web.count(2), 2);
        due("letter(1, 1)", web.letter(1, 1), -8);
        int[] other = {-1, 4, LEAST, MOST};
        for (int what : other) {
            due("count(" + what + ")", web.count(what), -1);
        }
    }

    /** The bounds of a dozen letters, with tables of many words. */
    private static void aDozenLetters() {
        promise = 0;
        DecisionWeb web = house(12, 20000);
        for (int v = 0; v < 12; v++) {
            due("many(v)", web.many(v), 2048);
            due("letters(v)", web.letters(v), 1 << v);
            due("cost(v, 1000000)", web.cost(v, 1000000), 0);
        }
        web.copy(20, 0);
        web.copy(21, 0);
        web.copy(22, 0);
        for (int v = 1; v < 12; v++) {
            due("join", web.join(20, 20, v, 6), 0);
            due("join", web.join(21, 21, v, 8), 0);
            due("join", web.join(22, 22, v, 14), 0);
        }
        due("size, odd", web.size(20), 23);
        due("many, odd", web.many(20), 2048);
        due("pick, odd", web.pick(20, 2047), 4094);
        due("size, all of them", web.size(21), 12);
        due("pick, all of them", web.pick(21, 0), 4095);
        due("dearest, all of them", web.dearest(21), 12000000);
        due("cheapest, all of them", web.cheapest(21), 4095);
        due("many, some of them", web.many(22), 4095);
        due("tells(21, 4095)", web.tells(21, 4095), 1);
        due("tells(21, 4096)", web.tells(21, 4096), -2);
        due("sum(23, 21, 4095, false)", web.sum(23, 21, 4095, false), 0);
        due("many(23)", web.many(23), 4096);
        due("sum(23, 21, 4096, false)", web.sum(23, 21, 4096, false), -2);
        due("near(23, 0, 21)", web.near(23, 0, 21), 0);
        due("many(23)", web.many(23), 4096);
        web.point(21);
        for (int v = 0; v < 12; v++) {
            due("at()", web.at(), v);
            due("go(true)", web.go(true), true);
        }
        due("at()", web.at(), -3);
        due("swap(10)", web.swap(10), 0);
        due("swap(11)", web.swap(11), -2);
        due("level(11, 0)", web.level(11, 0), 10);
        due("sift(11)", web.sift(11), 0);
        web.join(24, 0, 11, 2);
        for (int v = 1; v < 11; v++) {
            // letter 11 goes through all levels, and the function stays
            due("swap", web.swap(v - 1), 0);
            due("level(v, 0)", web.level(v, 0), 11);
            due("pick(24, 1023)", web.pick(24, 1023), 2047);
            due("trade", web.trade(25, 24, v, 11), 0);
            due("letters", web.letters(25), 1 | 1 << v);
            due("pick", web.pick(25, 0), 1);
            due("trade back", web.trade(25, 25, 11, v), 0);
            due("same(25, 24)", web.same(25, 24), 1);
        }
    }

    private static void oneLetter() {
        promise = 0;
        DecisionWeb web = house(1, 1);
        due("many(0)", web.many(0), 1);
        due("join(1, 0, 0, 1)", web.join(1, 0, 0, 1), -8);
        due("join(0, 0, 0, 1)", web.join(0, 0, 0, 1), 0);
        due("pick(0, 0)", web.pick(0, 0), 0);
        due("pick(0, 1)", web.pick(0, 1), -1);
        due("swap(0)", web.swap(0), -2);
        due("sift(0)", web.sift(0), 0);
        due("width(0, 0)", web.width(0, 0), 1);
        due("sum(0, 0, 1, true)", web.sum(0, 0, 1, true), 0);
        due("many(0)", web.many(0), 0);
    }

    /** All 16 functions of two letters have 14 forks, the most that there can be. */
    private static void allOfTwoLetters(int capacity, int refused) {
        DecisionWeb web = house(2, capacity);
        web.copy(16, 0);
        web.copy(17, 1);
        int got = 0;
        for (int table = 0; table < 16; table++) {
            got += web.join(table, 16, 17, table) == -8 ? 1 : 0;
        }
        due("how many of them are refused", got, refused);
        due("count(2)", web.count(2), 14 - refused);
    }
}
