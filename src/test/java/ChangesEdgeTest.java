/** The boundary cases of promises 1 to 14: a test for each sentence that names one. */
public final class ChangesEdgeTest {
    private static final int L0 = 0xAA;
    private static final int L1 = 0xCC;
    private static final int L2 = 0xF0;
    private static final int ALL = 0xFF;

    private static final Check CHECK = new Check("ChangesEdgeTest");

    public static void main(String[] args) {
        newObject();
        freshOfTheBounds();
        freshBeyondTheBounds();
        freshLeavesNothingBehind();
        freshTakesAnotherCapacity();
        constantOfEachSize();
        constantOfAFullHouse();
        constantOfNoRegister();
        letterThatIsThere();
        letterOfNoRoom();
        letterInAnotherOrder();
        joinOfEachTable();
        joinOutsideTheTables();
        joinOfOneWithItself();
        joinIntoWhatIsRead();
        forkByAllYesOrAllNo();
        forkIntoWhatIsRead();
        fixOfWhatDoesNotMatter();
        fixOfEachLetter();
        fixNeedsRoom();
        fixIntoWhatIsRead();
        putOfConstants();
        putOfTheLetterItself();
        putOfWhatTellsOfTheLetter();
        putIntoWhatIsRead();
        sumOfNoLetters();
        sumOfAllLetters();
        sumOutsideTheMasks();
        sumOfLettersThatDoNotMatter();
        sumIntoWhatIsRead();
        tradeOfOneLetter();
        tradeEitherWay();
        tradeOfTheFirstAndLast();
        tradeIntoWhatIsRead();
        nearInNothing();
        nearInAll();
        nearGoesByTheOrder();
        nearIntoWhatIsRead();
        copyOfItself();
        copyIsItsOwn();
        swapOfTheLastLevel();
        swapOfOneLetter();
        swapTwice();
        swapKeepsFunctionsAndCosts();
        swapOfAFullHouse();
        siftOfOneLetter();
        siftOfAnEmptyHouse();
        siftOfSeveralTheLeast();
        siftToTheLastLevel();
        siftToAMiddleLevel();
        siftIsWhereSwapsFindFewest();
        siftKeepsTheOthersInOrder();
        siftOfEachLetterOfTwelve();
        siftOfNoLetter();
        CHECK.end();
    }

    /** Registers 0 to 2 are the letters of three. */
    private static DecisionWeb house() {
        return House.ofLetters(3, House.ROOMY);
    }

    private static void dueTable(String call, DecisionWeb web, int r, long want) {
        CHECK.due("register " + r + " behind " + call, House.table(web, r), want);
    }

    private static void newObject() {
        CHECK.about("1: As fresh(6, 2000)");
        CHECK.due("state", House.state(new DecisionWeb()), House.state(House.empty(6, 2000)));
        CHECK.due("count(0)", new DecisionWeb().count(0), 6);
        CHECK.due("count(1)", new DecisionWeb().count(1), 2000);
        CHECK.due("letter(0, 5)", new DecisionWeb().letter(0, 5), 0);
        CHECK.due("letter(0, 6)", new DecisionWeb().letter(0, 6), -2);
        CHECK.due("tells(0, 63)", new DecisionWeb().tells(0, 63), 0);
        CHECK.due("tells(0, 64)", new DecisionWeb().tells(0, 64), -2);
    }

    private static void freshOfTheBounds() {
        CHECK.about("2: So many LETTERS, that CAPACITY: true");
        int[][] good = {{1, 0}, {1, 20000}, {12, 0}, {12, 20000}, {6, 1}, {6, 19999}, {2, 5}, {11, 5}};
        for (int[] g : good) {
            DecisionWeb web = new DecisionWeb();
            CHECK.due("fresh(" + g[0] + ", " + g[1] + ")", web.fresh(g[0], g[1]), true);
            CHECK.due("count(0)", web.count(0), g[0]);
            CHECK.due("count(1)", web.count(1), g[1]);
        }
    }

    private static void freshBeyondTheBounds() {
        CHECK.about("2: false, and nothing is done, if n is not 1 to 12, or capacity not 0 to 20000");
        int[][] wrong = {{0, 0}, {13, 0}, {1, -1}, {12, 20001}, {0, 20001}, {13, -1}};
        for (int[] w : wrong) {
            DecisionWeb web = new DecisionWeb();
            CHECK.due("fresh(" + w[0] + ", " + w[1] + ")", web.fresh(w[0], w[1]), false);
            CHECK.due("state", House.state(web), House.state(new DecisionWeb()));
        }
    }

    private static void freshLeavesNothingBehind() {
        CHECK.about("2: all REGISTERS are all no, COSTS 0, the ORDER as at first");
        for (int n = 1; n <= 6; n++) {
            DecisionWeb web = House.ofLetters(12, House.ROOMY);
            for (int r = 0; r < 32; r++) {
                web.constant(r, r % 2 == 0);
            }
            for (int v = 0; v < 12; v++) {
                web.letter(v, 11 - v);
                web.cost(v, 1000 + v);
            }
            for (int k = 10; k >= 0; k--) {
                web.swap(k);
            }
            web.point(0);
            web.fresh(n, 7);
            web.cost(0, 9);
            web.fresh(n, 8);
            CHECK.due("state", House.state(web), House.state(House.empty(n, 8)));
            web.fresh(12, 9);
            CHECK.due("order", House.order(web), House.order(House.empty(12, 9)));
            for (int v = 0; v < 12; v++) {
                CHECK.due("many(" + v + ")", web.many(v), 0);
                CHECK.due("cost(" + v + ", 0)", web.cost(v, 0), 0);
            }
        }
    }

    private static void freshTakesAnotherCapacity() {
        CHECK.about("2: that CAPACITY");
        DecisionWeb web = House.empty(3, 0);
        CHECK.due("letter(0, 0) with no room", web.letter(0, 0), -8);
        web.fresh(3, 1);
        CHECK.due("letter(0, 0) with room for one", web.letter(0, 0), 0);
        web.fresh(3, 0);
        CHECK.due("letter(0, 0) with no room again", web.letter(0, 0), -8);
    }

    private static void constantOfEachSize() {
        CHECK.about("3: REGISTER r is all yes, or all no");
        for (int n = 1; n <= 12; n++) {
            DecisionWeb web = House.empty(n, 0);
            int[] ends = {0, 31};
            for (int r : ends) {
                CHECK.due("constant(r, true)", web.constant(r, true), 0);
                CHECK.due("many(r)", web.many(r), 1 << n);
                CHECK.due("tells(r, greatest)", web.tells(r, (1 << n) - 1), 1);
                CHECK.due("constant(r, false)", web.constant(r, false), 0);
                CHECK.due("many(r)", web.many(r), 0);
            }
        }
    }

    private static void constantOfAFullHouse() {
        CHECK.about("3: -2 alone");
        DecisionWeb web = House.ofLetters(3, 3);
        CHECK.due("constant(3, true)", web.constant(3, true), 0);
        CHECK.due("constant(0, true)", web.constant(0, true), 0);
        CHECK.due("constant(1, false)", web.constant(1, false), 0);
        CHECK.due("count(2)", web.count(2), 1);
    }

    private static void constantOfNoRegister() {
        CHECK.about("3: -2");
        for (int r : House.NO_REGISTER) {
            CHECK.due("constant(" + r + ", true)", new DecisionWeb().constant(r, true), -2);
            CHECK.due("constant(" + r + ", false)", new DecisionWeb().constant(r, false), -2);
        }
    }

    private static void letterThatIsThere() {
        CHECK.about("4: -8");
        DecisionWeb web = House.ofLetters(3, 3);
        CHECK.due("letter(31, 2): its fork is there", web.letter(31, 2), 0);
        CHECK.due("same(31, 2)", web.same(31, 2), 1);
        CHECK.due("count(2)", web.count(2), 3);
    }

    private static void letterOfNoRoom() {
        CHECK.about("4: -8");
        DecisionWeb web = House.empty(3, 1);
        CHECK.due("letter(0, 0)", web.letter(0, 0), 0);
        CHECK.due("letter(1, 1)", web.letter(1, 1), -8);
        CHECK.due("many(1)", web.many(1), 0);
        CHECK.due("letter(0, 1): letter 0 goes", web.letter(0, 1), 0);
    }

    private static void letterInAnotherOrder() {
        CHECK.about("4: yes where that is 1");
        DecisionWeb web = House.empty(12, House.ROOMY);
        web.swap(0);
        web.swap(10);
        for (int v = 0; v < 12; v++) {
            web.letter(v, v);
            CHECK.due("tells(v, 2 to the v)", web.tells(v, 1 << v), 1);
            CHECK.due("tells(v, the others)", web.tells(v, 4095 ^ 1 << v), 0);
            CHECK.due("many(v)", web.many(v), 2048);
        }
    }

    private static void joinOfEachTable() {
        CHECK.about("5: bit 0 both no, bit 1 a alone yes, bit 2 b alone yes, bit 3 both yes (0 to 15)");
        DecisionWeb web = house();
        for (int table = 0; table < 16; table++) {
            CHECK.due("join", web.join(3, 0, 1, table), 0);
            int want = ((table & 1) != 0 ? ALL & ~L0 & ~L1 : 0) | ((table & 2) != 0 ? L0 & ~L1 : 0)
                | ((table & 4) != 0 ? L1 & ~L0 : 0) | ((table & 8) != 0 ? L0 & L1 : 0);
            dueTable("join(3, 0, 1, " + table + ")", web, 3, want);
        }
    }

    private static void joinOutsideTheTables() {
        CHECK.about("5: (0 to 15). -2");
        int[] wrong = {-1, 16, 17, 24, Integer.MIN_VALUE, Integer.MAX_VALUE};
        DecisionWeb web = house();
        for (int table : wrong) {
            CHECK.due("join(3, 0, 1, " + table + ")", web.join(3, 0, 1, table), -2);
        }
        CHECK.due("many(3)", web.many(3), 0);
    }

    private static void joinOfOneWithItself() {
        CHECK.about("5: bit 1 a alone yes, bit 2 b alone yes (which is nowhere if they are one)");
        DecisionWeb web = house();
        for (int table = 0; table < 16; table++) {
            web.join(3, 0, 0, table);
            dueTable("join(3, 0, 0, " + table + ")", web, 3, ((table & 1) != 0 ? ALL & ~L0 : 0) | ((table & 8) != 0 ? L0 : 0));
        }
    }

    private static void joinIntoWhatIsRead() {
        CHECK.about("5: (r may be a or b, here and below.)");
        DecisionWeb web = house();
        CHECK.due("join(0, 0, 1, 2)", web.join(0, 0, 1, 2), 0);
        dueTable("join(0, 0, 1, 2)", web, 0, L0 & ~L1);
        CHECK.due("join(1, 2, 1, 2)", web.join(1, 2, 1, 2), 0);
        dueTable("join(1, 2, 1, 2)", web, 1, L2 & ~L1);
        CHECK.due("join(2, 2, 2, 1)", web.join(2, 2, 2, 1), 0);
        dueTable("join(2, 2, 2, 1)", web, 2, ALL & ~L2);
    }

    private static void forkByAllYesOrAllNo() {
        CHECK.about("6: what b tells where a is yes, and what c tells else");
        DecisionWeb web = house();
        CHECK.due("fork(3, 31, 0, 1), 31 being all no", web.fork(3, 31, 0, 1), 0);
        dueTable("fork(3, 31, 0, 1)", web, 3, L1);
        web.constant(31, true);
        CHECK.due("fork(3, 31, 0, 1), 31 being all yes", web.fork(3, 31, 0, 1), 0);
        dueTable("fork(3, 31, 0, 1)", web, 3, L0);
        CHECK.due("fork(3, 2, 0, 0)", web.fork(3, 2, 0, 0), 0);
        dueTable("fork(3, 2, 0, 0)", web, 3, L0);
        CHECK.due("fork(3, 0, 31, 30)", web.fork(3, 0, 31, 30), 0);
        dueTable("fork(3, 0, 31, 30)", web, 3, L0);
    }

    private static void forkIntoWhatIsRead() {
        CHECK.about("6: (r may be a or b, here and below.)");
        DecisionWeb web = house();
        web.fork(0, 0, 1, 2);
        dueTable("fork(0, 0, 1, 2)", web, 0, L0 & L1 | ~L0 & L2 & ALL);
        web.letter(0, 0);
        web.fork(1, 0, 1, 2);
        dueTable("fork(1, 0, 1, 2)", web, 1, L0 & L1 | ~L0 & L2 & ALL);
        web.letter(1, 1);
        web.fork(2, 0, 1, 2);
        dueTable("fork(2, 0, 1, 2)", web, 2, L0 & L1 | ~L0 & L2 & ALL);
        web.fork(0, 0, 0, 0);
        dueTable("fork(0, 0, 0, 0)", web, 0, L0);
    }

    private static void fixOfWhatDoesNotMatter() {
        CHECK.about("7: REGISTER r is a with LETTER v fixed");
        DecisionWeb web = house();
        web.join(3, 0, 1, 8);
        web.fix(4, 3, 2, true);
        CHECK.due("fix(4, 3, 2, true): it does not differ by 2", web.same(4, 3), 1);
        web.fix(4, 3, 2, false);
        CHECK.due("fix(4, 3, 2, false)", web.same(4, 3), 1);
        web.fix(4, 31, 0, true);
        CHECK.due("fix(4, 31, 0, true) of all no", web.many(4), 0);
        web.constant(31, true);
        web.fix(4, 31, 2, false);
        CHECK.due("fix(4, 31, 2, false) of all yes", web.many(4), 8);
    }

    private static void fixOfEachLetter() {
        CHECK.about("7: with LETTER v fixed");
        DecisionWeb web = House.ofLetters(12, House.ROOMY);
        for (int v = 0; v < 12; v++) {
            CHECK.due("fix(20, v, v, true)", web.fix(20, v, v, true), 0);
            CHECK.due("many(20)", web.many(20), 4096);
            CHECK.due("fix(20, v, v, false)", web.fix(20, v, v, false), 0);
            CHECK.due("many(20)", web.many(20), 0);
            int other = (v + 1) % 12;
            web.join(21, v, other, 2);
            web.fix(20, 21, other, false);
            CHECK.due("fix of the other letter", web.same(20, v), 1);
        }
        CHECK.due("fix(20, 0, 12, true)", web.fix(20, 0, 12, true), -2);
        CHECK.due("fix(20, 0, -1, true)", web.fix(20, 0, -1, true), -2);
    }

    private static void fixNeedsRoom() {
        CHECK.about("7: -8");
        DecisionWeb web = House.ofLetters(3, 3);
        web.fork(0, 0, 1, 2);
        CHECK.due("fix(3, 0, 2, true) is 'not 0, or 1'", web.fix(3, 0, 2, true), -8);
        CHECK.due("many(3)", web.many(3), 0);
        CHECK.due("fix(3, 0, 0, true): letter 1 is there", web.fix(3, 0, 0, true), 0);
    }

    private static void fixIntoWhatIsRead() {
        CHECK.about("7: (r may be a)");
        DecisionWeb web = house();
        web.fork(3, 0, 1, 2);
        CHECK.due("fix(3, 3, 0, false)", web.fix(3, 3, 0, false), 0);
        dueTable("fix(3, 3, 0, false)", web, 3, L2);
    }

    private static void putOfConstants() {
        CHECK.about("8: what a tells of that with LETTER v as b tells of it (all yes, all no)");
        DecisionWeb web = house();
        web.fork(3, 0, 1, 2);
        web.constant(30, true);
        web.put(4, 3, 0, 30);
        dueTable("put(4, 3, 0, 30)", web, 4, L1);
        web.put(4, 3, 0, 31);
        dueTable("put(4, 3, 0, 31)", web, 4, L2);
        web.put(4, 30, 0, 1);
        dueTable("put(4, 30, 0, 1) into all yes", web, 4, ALL);
        web.put(4, 31, 0, 1);
        dueTable("put(4, 31, 0, 1) into all no", web, 4, 0);
    }

    private static void putOfTheLetterItself() {
        CHECK.about("8: REGISTER r is a with b put in for LETTER v (b being that)");
        DecisionWeb web = house();
        web.fork(3, 0, 1, 2);
        for (int v = 0; v < 3; v++) {
            web.put(4, 3, v, v);
            CHECK.due("put(4, 3, v, v)", web.same(4, 3), 1);
        }
    }

    private static void putOfWhatTellsOfTheLetter() {
        CHECK.about("8: it tells of each ASSIGNMENT what a tells of that with LETTER v as b tells of it");
        DecisionWeb web = house();
        web.join(3, 0, 1, 8);
        web.join(4, 0, 2, 6);
        CHECK.due("put(5, 3, 0, 4): b differs by letter 0 itself", web.put(5, 3, 0, 4), 0);
        dueTable("put(5, 3, 0, 4)", web, 5, (L0 ^ L2) & L1);
        CHECK.due("put(5, 3, 2, 4): a does not differ by 2", web.put(5, 3, 2, 4), 0);
        dueTable("put(5, 3, 2, 4)", web, 5, L0 & L1);
        CHECK.due("put(5, 3, 3, 4)", web.put(5, 3, 3, 4), -2);
    }

    private static void putIntoWhatIsRead() {
        CHECK.about("8: (r may be a or b)");
        DecisionWeb web = house();
        web.join(3, 0, 1, 8);
        web.put(3, 3, 1, 2);
        dueTable("put(3, 3, 1, 2)", web, 3, L0 & L2);
        web.join(4, 0, 1, 14);
        web.put(4, 3, 2, 4);
        dueTable("put(4, 3, 2, 4)", web, 4, L0);
        web.join(5, 0, 1, 6);
        web.put(5, 5, 1, 5);
        dueTable("put(5, 5, 1, 5): 0 other than '0 other than 1'", web, 5, L1);
    }

    private static void sumOfNoLetters() {
        CHECK.about("9: mask 0");
        DecisionWeb web = house();
        web.fork(3, 0, 1, 2);
        CHECK.due("sum(4, 3, 0, false)", web.sum(4, 3, 0, false), 0);
        CHECK.due("same(4, 3)", web.same(4, 3), 1);
        CHECK.due("sum(5, 3, 0, true)", web.sum(5, 3, 0, true), 0);
        CHECK.due("same(5, 3)", web.same(5, 3), 1);
    }

    private static void sumOfAllLetters() {
        CHECK.about("9: for some of the LETTERS of a mask being 0 or 1 (all: for all of them)");
        for (int n = 1; n <= 12; n++) {
            DecisionWeb web = House.ofLetters(n, House.ROOMY);
            int greatest = (1 << n) - 1;
            // register 20 tells yes once, register 21 no once
            web.constant(20, true);
            for (int v = 0; v < n; v++) {
                web.join(20, 20, v, 8);
            }
            web.join(21, 20, 20, 1);
            web.constant(22, true);
            CHECK.due("sum(30, 20, greatest, false)", web.sum(30, 20, greatest, false), 0);
            CHECK.due("many(30)", web.many(30), greatest + 1);
            CHECK.due("sum(30, 21, greatest, true)", web.sum(30, 21, greatest, true), 0);
            CHECK.due("many(30)", web.many(30), 0);
            CHECK.due("sum(30, 22, greatest, true) of all yes", web.sum(30, 22, greatest, true), 0);
            CHECK.due("many(30)", web.many(30), greatest + 1);
            CHECK.due("sum(30, 23, greatest, false) of all no", web.sum(30, 23, greatest, false), 0);
            CHECK.due("many(30)", web.many(30), 0);
        }
    }

    private static void sumOutsideTheMasks() {
        CHECK.about("9: also if mask is not 0 to the greatest ASSIGNMENT");
        for (int n = 1; n <= 12; n++) {
            DecisionWeb web = House.ofLetters(n, House.ROOMY);
            int[] wrong = {-1, 1 << n, (1 << n) + 1, -(1 << n), 1 << 30, Integer.MIN_VALUE, Integer.MAX_VALUE};
            for (int mask : wrong) {
                CHECK.due("sum(0, 0, " + mask + ", false) of " + n, web.sum(0, 0, mask, false), -2);
                CHECK.due("sum(0, 0, " + mask + ", true) of " + n, web.sum(0, 0, mask, true), -2);
            }
            CHECK.due("letters(0)", web.letters(0), 1);
        }
    }

    private static void sumOfLettersThatDoNotMatter() {
        CHECK.about("9: yes where a does for some of the LETTERS of a mask");
        DecisionWeb web = house();
        web.join(3, 0, 1, 6);
        web.sum(4, 3, 4, false);
        CHECK.due("sum(4, 3, 4, false)", web.same(4, 3), 1);
        web.sum(4, 3, 4, true);
        CHECK.due("sum(4, 3, 4, true)", web.same(4, 3), 1);
    }

    private static void sumIntoWhatIsRead() {
        CHECK.about("9: (r may be a)");
        DecisionWeb web = house();
        web.fork(3, 0, 1, 2);
        web.sum(3, 3, 1, false);
        dueTable("sum(3, 3, 1, false)", web, 3, L1 | L2);
        web.fork(3, 0, 1, 2);
        web.sum(3, 3, 1, true);
        dueTable("sum(3, 3, 1, true)", web, 3, L1 & L2);
    }

    private static void tradeOfOneLetter() {
        CHECK.about("10: LETTERS u and v in one another's places (being one)");
        DecisionWeb web = house();
        web.fork(3, 0, 1, 2);
        for (int v = 0; v < 3; v++) {
            CHECK.due("trade(4, 3, v, v)", web.trade(4, 3, v, v), 0);
            CHECK.due("same(4, 3)", web.same(4, 3), 1);
        }
    }

    private static void tradeEitherWay() {
        CHECK.about("10: LETTERS u and v in one another's places");
        DecisionWeb web = house();
        web.fork(3, 0, 1, 2);
        web.trade(4, 3, 0, 2);
        dueTable("trade(4, 3, 0, 2)", web, 4, L2 & L1 | ~L2 & L0 & ALL);
        web.trade(5, 3, 2, 0);
        CHECK.due("same(5, 4)", web.same(5, 4), 1);
        web.trade(5, 5, 0, 2);
        CHECK.due("traded twice", web.same(5, 3), 1);
    }

    private static void tradeOfTheFirstAndLast() {
        CHECK.about("10: LETTERS u and v");
        DecisionWeb web = House.ofLetters(12, House.ROOMY);
        for (int u = 0; u < 12; u++) {
            for (int v = 0; v < 12; v += 11) {
                web.trade(20, u, u, v);
                CHECK.due("trade(20, " + u + ", " + u + ", " + v + ")", web.same(20, v), 1);
            }
        }
        CHECK.due("trade(20, 0, 0, 12)", web.trade(20, 0, 0, 12), -2);
        CHECK.due("trade(20, 0, 12, 0)", web.trade(20, 0, 12, 0), -2);
        CHECK.due("trade(20, 0, 12, 12)", web.trade(20, 0, 12, 12), -2);
    }

    private static void tradeIntoWhatIsRead() {
        CHECK.about("10: (r may be a)");
        DecisionWeb web = house();
        web.join(3, 0, 2, 2);
        CHECK.due("trade(3, 3, 0, 1)", web.trade(3, 3, 0, 1), 0);
        dueTable("trade(3, 3, 0, 1)", web, 3, L1 & ~L2);
    }

    private static void nearInNothing() {
        CHECK.about("11: -3: c is all no");
        for (int n = 1; n <= 12; n++) {
            DecisionWeb web = House.ofLetters(n, House.ROOMY);
            CHECK.due("near(20, 0, 21)", web.near(20, 0, 21), -3);
            CHECK.due("near(0, 0, 21)", web.near(0, 0, 21), -3);
            CHECK.due("near(21, 0, 21)", web.near(21, 0, 21), -3);
            CHECK.due("letters(0)", web.letters(0), 1);
            CHECK.due("near(32, 0, 21) is -2 ahead of -3", web.near(32, 0, 21), -2);
        }
    }

    private static void nearInAll() {
        CHECK.about("11: what a tells of its NEAREST in c (all yes)");
        for (int n = 1; n <= 12; n++) {
            DecisionWeb web = House.ofLetters(n, House.ROOMY);
            web.constant(30, true);
            CHECK.due("near", web.near(20, n - 1, 30), 0);
            CHECK.due("same", web.same(20, n - 1), 1);
            CHECK.due("near(20, 31, 0): a being all no", web.near(20, 31, 0), 0);
            CHECK.due("many(20)", web.many(20), 0);
            CHECK.due("near(20, 30, 0): a being all yes", web.near(20, 30, 0), 0);
            CHECK.due("many(20)", web.many(20), 1 << n);
        }
    }

    private static void nearGoesByTheOrder() {
        CHECK.about("11: its NEAREST, LEVEL by LEVEL");
        DecisionWeb web = House.ofLetters(2, House.ROOMY);
        web.join(2, 0, 1, 9);
        web.near(3, 1, 2);
        CHECK.due("letter 0 leads", web.same(3, 0), 1);
        web.swap(0);
        web.near(3, 0, 2);
        CHECK.due("letter 1 leads", web.same(3, 1), 1);
    }

    private static void nearIntoWhatIsRead() {
        CHECK.about("11: (r may be a or c)");
        DecisionWeb web = House.ofLetters(2, House.ROOMY);
        web.join(2, 0, 1, 9);
        web.near(1, 1, 2);
        CHECK.due("near(1, 1, 2)", web.same(1, 0), 1);
        web.letter(1, 1);
        web.near(2, 1, 2);
        CHECK.due("near(2, 1, 2)", web.same(2, 0), 1);
        web.near(2, 2, 2);
        CHECK.due("near(2, 2, 2)", web.many(2), 4);
    }

    private static void copyOfItself() {
        CHECK.about("12: REGISTER r is what REGISTER a is (r being a)");
        DecisionWeb web = House.ofLetters(3, 3);
        CHECK.due("copy(1, 1)", web.copy(1, 1), 0);
        dueTable("copy(1, 1)", web, 1, L1);
        CHECK.due("copy(31, 0) of a full house", web.copy(31, 0), 0);
        CHECK.due("copy(0, 31)", web.copy(0, 31), 0);
        dueTable("copy(0, 31)", web, 0, L0);
        for (int r : House.NO_REGISTER) {
            CHECK.due("copy(" + r + ", 0)", web.copy(r, 0), -2);
            CHECK.due("copy(0, " + r + ")", web.copy(0, r), -2);
        }
    }

    private static void copyIsItsOwn() {
        CHECK.about("12: REGISTER r is what REGISTER a is (and not that REGISTER)");
        DecisionWeb web = house();
        web.copy(3, 0);
        web.letter(0, 1);
        dueTable("letter(0, 1)", web, 3, L0);
        web.constant(3, true);
        dueTable("constant(3, true)", web, 0, L1);
    }

    private static void swapOfTheLastLevel() {
        CHECK.about("13: -2 (also for the last LEVEL)");
        for (int n = 1; n <= 12; n++) {
            DecisionWeb web = House.ofLetters(n, House.ROOMY);
            String before = House.order(web);
            int[] wrong = {n - 1, n, n + 1, -1, -2, Integer.MIN_VALUE, Integer.MAX_VALUE};
            for (int k : wrong) {
                CHECK.due("swap(" + k + ") of " + n, web.swap(k), -2);
            }
            CHECK.due("order", House.order(web), before);
            for (int k = 0; k < n - 1; k++) {
                CHECK.due("swap(" + k + ") of " + n, web.swap(k), 0);
                CHECK.due("level: letter 0 goes on", web.level(k + 1, 0), 0);
                CHECK.due("level: what it passed", web.level(k, 0), k + 1);
            }
        }
    }

    private static void swapOfOneLetter() {
        CHECK.about("13: -2 (also for the last LEVEL, which is the only one)");
        DecisionWeb web = House.ofLetters(1, 1);
        CHECK.due("swap(0)", web.swap(0), -2);
        CHECK.due("level(0, 0)", web.level(0, 0), 0);
    }

    private static void swapTwice() {
        CHECK.about("13: The LETTERS of LEVELS k and k + 1 change places in the ORDER");
        for (int k = 0; k < 3; k++) {
            DecisionWeb web = House.ofLetters(4, House.ROOMY);
            web.fork(4, 0, 3, 2);
            web.swap(k);
            web.swap(k);
            DecisionWeb twin = House.ofLetters(4, House.ROOMY);
            twin.fork(4, 0, 3, 2);
            CHECK.due("state behind swap(" + k + ") twice", House.state(web), House.state(twin));
        }
    }

    private static void swapKeepsFunctionsAndCosts() {
        CHECK.about("13: (the FUNCTIONS stay)");
        for (int k = 0; k < 11; k++) {
            DecisionWeb web = House.ofLetters(12, House.ROOMY);
            for (int v = 0; v < 12; v++) {
                web.cost(v, v + 1);
            }
            web.swap(k);
            for (int v = 0; v < 12; v++) {
                CHECK.due("letters(" + v + ")", web.letters(v), 1 << v);
                CHECK.due("pick(" + v + ", 0)", web.pick(v, 0), 1 << v);
                CHECK.due("cost(" + v + ", 0)", web.cost(v, 0), v + 1);
            }
        }
    }

    private static void swapOfAFullHouse() {
        CHECK.about("13: -8");
        DecisionWeb web = House.empty(3, 4);
        web.letter(1, 1);
        web.letter(2, 2);
        web.letter(0, 0);
        web.fork(0, 0, 1, 2);
        web.constant(1, false);
        web.constant(2, false);
        CHECK.due("count(2) of '0 then 1 else 2'", web.count(2), 3);
        CHECK.due("swap(0): 1 0 2 needs 4", web.swap(0), 0);
        CHECK.due("count(2)", web.count(2), 4);
        CHECK.due("swap(1): 1 2 0 needs 5", web.swap(1), -8);
        CHECK.due("order", House.order(web), "1 0 2");
        dueTable("swap(1) that was refused", web, 0, L0 & L1 | ~L0 & L2 & ALL);
    }

    private static void siftOfOneLetter() {
        CHECK.about("14: LETTER v goes to that LEVEL (the only one)");
        DecisionWeb web = House.ofLetters(1, 1);
        CHECK.due("sift(0)", web.sift(0), 0);
        CHECK.due("level(0, 0)", web.level(0, 0), 0);
        CHECK.due("letters(0)", web.letters(0), 1);
    }

    private static void siftOfAnEmptyHouse() {
        CHECK.about("14: (of several the least LEVEL), there being no FORKS at all");
        DecisionWeb web = House.empty(4, 0);
        CHECK.due("sift(2)", web.sift(2), 0);
        CHECK.due("order", House.order(web), "2 0 1 3");
        CHECK.due("sift(3)", web.sift(3), 0);
        CHECK.due("order", House.order(web), "3 2 0 1");
        CHECK.due("sift(3) again", web.sift(3), 0);
        CHECK.due("order", House.order(web), "3 2 0 1");
    }

    private static void siftOfSeveralTheLeast() {
        CHECK.about("14: (of several the least LEVEL)");
        DecisionWeb web = House.ofLetters(4, 4);
        CHECK.due("sift(3): a house of letters has as many anywhere", web.sift(3), 0);
        CHECK.due("order", House.order(web), "3 0 1 2");
        web = house();
        web.join(3, 1, 2, 8);
        web.constant(0, false);
        web.constant(1, false);
        // "1 and 2" beside letter 2: two forks with 2 behind 1, three else
        CHECK.due("sift(1): 1 0 2 and 0 1 2 have as many", web.sift(1), 0);
        CHECK.due("order", House.order(web), "1 0 2");
        CHECK.due("sift(2): 1 2 0 and 1 0 2 have as many", web.sift(2), 1);
        CHECK.due("order", House.order(web), "1 2 0");
    }

    private static void siftToTheLastLevel() {
        CHECK.about("14: at which FORKS of all are fewest (the last)");
        DecisionWeb web = house();
        // letter 0 last: "1 and 0", "2 and 0" and letter 0 have that in common
        web.join(3, 1, 0, 8);
        web.join(4, 2, 0, 8);
        web.join(5, 3, 2, 8);
        web.constant(1, false);
        web.constant(2, false);
        CHECK.due("sift(0)", web.sift(0), 2);
        CHECK.due("order", House.order(web), "1 2 0");
        CHECK.due("count(2)", web.count(2), 4);
    }

    private static void siftToAMiddleLevel() {
        CHECK.about("14: at which FORKS of all are fewest (in the middle)");
        DecisionWeb web = house();
        // letter 0 behind 1, whose join with it is there, and ahead of 2, which is its own low
        web.join(3, 1, 0, 8);
        web.join(4, 0, 2, 14);
        web.join(5, 1, 4, 8);
        web.constant(1, false);
        CHECK.due("sift(0)", web.sift(0), 1);
        CHECK.due("order", House.order(web), "1 0 2");
    }

    /** Two functions of four letters; the forks at each level are counted with the letter swapped there. */
    private static void siftIsWhereSwapsFindFewest() {
        CHECK.about("14: at which FORKS of all are fewest (of several the least LEVEL): it");
        for (int i = 0; i < 400; i++) {
            int v = i % 4;
            int[] tables = {i * 40503 & 0xFFFF, i * i * 9173 >> 3 & 0xFFFF};
            DecisionWeb swapped = twoFunctions(tables);
            for (int k = v; k > 0; k--) {
                swapped.swap(k - 1);
            }
            int best = 0;
            int fewest = swapped.count(2);
            for (int k = 1; k < 4; k++) {
                swapped.swap(k - 1);
                if (swapped.count(2) < fewest) {
                    fewest = swapped.count(2);
                    best = k;
                }
            }
            DecisionWeb web = twoFunctions(tables);
            CHECK.due("sift(" + v + ") of " + tables[0] + " and " + tables[1], web.sift(v), best);
            CHECK.due("count(2)", web.count(2), fewest);
            dueTable("sift", web, 0, tables[0]);
            dueTable("sift", web, 31, tables[1]);
        }
    }

    private static DecisionWeb twoFunctions(int[] tables) {
        DecisionWeb web = House.empty(4, House.ROOMY);
        House.set(web, 0, tables[0]);
        House.set(web, 31, tables[1]);
        return web;
    }

    private static void siftKeepsTheOthersInOrder() {
        CHECK.about("14: the others staying in their ORDER");
        DecisionWeb web = House.empty(6, 0);
        web.swap(0);
        web.swap(4);
        CHECK.due("order", House.order(web), "1 0 2 3 5 4");
        CHECK.due("sift(3)", web.sift(3), 0);
        CHECK.due("order", House.order(web), "3 1 0 2 5 4");
        CHECK.due("sift(4)", web.sift(4), 0);
        CHECK.due("order", House.order(web), "4 3 1 0 2 5");
    }

    /** "0 and 11, or 1 and 10, or ...": each letter goes to its fellow. */
    private static void siftOfEachLetterOfTwelve() {
        CHECK.about("14: LETTER v goes to that LEVEL at which FORKS of all are fewest: it");
        DecisionWeb web = House.ofLetters(12, House.ROOMY);
        for (int v = 0; v < 6; v++) {
            web.join(30, v, 11 - v, 8);
            web.join(31, 31, 30, 14);
        }
        for (int r = 0; r < 31; r++) {
            web.constant(r, false);
        }
        CHECK.due("count(2)", web.count(2), 126);
        for (int v = 11; v >= 6; v--) {
            int before = web.count(2);
            int level = web.sift(v);
            CHECK.due("sift(" + v + ") tells where it is", web.level(level, 0), v);
            CHECK.due("its fellow is next to it", Math.abs(levelOf(web, 11 - v) - level), 1);
            // 6 and 5 are side by side from the beginning
            CHECK.due("there are fewer forks", web.count(2) < before, v != 6);
        }
        CHECK.due("count(2)", web.count(2), 12);
        CHECK.due("many(31): all but three out of four, six times", web.many(31), 4096 - 729);
    }

    private static int levelOf(DecisionWeb web, int v) {
        int k = 0;
        while (web.level(k, 0) != v) {
            k++;
        }
        return k;
    }

    private static void siftOfNoLetter() {
        CHECK.about("14: -2");
        for (int n = 1; n <= 12; n++) {
            DecisionWeb web = House.ofLetters(n, House.ROOMY);
            int[] wrong = {-1, n, n + 1, Integer.MIN_VALUE, Integer.MAX_VALUE};
            String before = House.order(web);
            for (int v : wrong) {
                CHECK.due("sift(" + v + ") of " + n, web.sift(v), -2);
            }
            CHECK.due("order", House.order(web), before);
        }
    }
}
