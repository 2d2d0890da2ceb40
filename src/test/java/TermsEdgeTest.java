/** The boundary cases of what the document says ahead of its promises: a test for each sentence that names one. */
public final class TermsEdgeTest {
    private static final Check CHECK = new Check("TermsEdgeTest");

    public static void main(String[] args) {
        usedFor512Calls();
        lettersOneToTwelve();
        assignmentsByTheirBits();
        registersAllNoAtFirst();
        registersHaveAFunctionEach();
        orderAtFirst();
        atLevelNoughtNothingIsFixed();
        onlyWhatDiffersIsAFork();
        eachForkOnceHoweverItIsMet();
        aFunctionAndItsOppositeShareNoFork();
        forksOfAllEachOnce();
        asManyAsCapacityOfOneLetter();
        whatTheRegisterWasDoesNotCount();
        whatOthersHaveInCommonWithItCounts();
        noRoomAtAll();
        theGreatestRoom();
        neverRefusedForCapacity();
        widthsAreSizeTogether();
        lowAndHigh();
        costsAtFirst();
        costsOfAllLetters();
        costOfNoLetter();
        nearestOfWhatIsAllowedItself();
        nearestOfTheOnlyOne();
        nearestLevelByLevel();
        memoryIsTheHousesOwn();
        CHECK.end();
    }

    private static void usedFor512Calls() {
        CHECK.about("An object is used for at most 512 calls after it has been made");
        DecisionWeb web = new DecisionWeb();
        web.fresh(12, 20000);
        web.letter(0, 11);
        for (int call = 3; call < 511; call++) {
            CHECK.due("join", web.join(1, 1, 0, 6), 0);
        }
        CHECK.due("call 511, same(1, 31): 508 joins undo each other", web.same(1, 31), 1);
        CHECK.due("call 512, sift(11)", web.sift(11), 0);
    }

    private static void lettersOneToTwelve() {
        CHECK.about("LETTERS 0 to N - 1 (N is 1 to 12)");
        for (int n = 1; n <= 12; n++) {
            DecisionWeb web = House.empty(n, House.ROOMY);
            for (int v = 0; v < n; v++) {
                CHECK.due("letter(" + v + ", " + v + ") of " + n, web.letter(v, v), 0);
                CHECK.due("letters(" + v + ") of " + n, web.letters(v), 1 << v);
            }
            CHECK.due("letter(0, " + n + ") of " + n, web.letter(0, n), -2);
            CHECK.due("letter(0, -1) of " + n, web.letter(0, -1), -2);
            CHECK.due("count(2) of " + n, web.count(2), n);
        }
    }

    private static void assignmentsByTheirBits() {
        CHECK.about("bit v (of the worth 2 to the v) is LETTER v; there are 2 to the N");
        for (int n = 1; n <= 12; n++) {
            DecisionWeb web = House.ofLetters(n, House.ROOMY);
            int greatest = (1 << n) - 1;
            for (int v = 0; v < n; v++) {
                CHECK.due("tells(v, 2 to the v)", web.tells(v, 1 << v), 1);
                CHECK.due("tells(v, all but that)", web.tells(v, greatest ^ 1 << v), 0);
                CHECK.due("tells(v, 0)", web.tells(v, 0), 0);
                CHECK.due("tells(v, greatest)", web.tells(v, greatest), 1);
                CHECK.due("many(v)", web.many(v), 1 << n - 1);
            }
            CHECK.due("tells(0, 2 to the N)", web.tells(0, greatest + 1), -2);
            CHECK.due("tells(0, -1)", web.tells(0, -1), -2);
        }
    }

    private static void registersAllNoAtFirst() {
        CHECK.about("REGISTERS 0 to 31 have a FUNCTION each, all no at first");
        DecisionWeb web = new DecisionWeb();
        for (int r = 0; r < 32; r++) {
            CHECK.due("many(" + r + ")", web.many(r), 0);
        }
        CHECK.due("many(-1)", web.many(-1), -2);
        CHECK.due("many(32)", web.many(32), -2);
    }

    /** Register r becomes "the assignment is r". */
    private static void registersHaveAFunctionEach() {
        CHECK.about("REGISTERS 0 to 31 have a FUNCTION each");
        DecisionWeb web = House.empty(5, House.ROOMY);
        for (int r = 0; r < 31; r++) {
            web.constant(r, true);
        }
        for (int v = 0; v < 5; v++) {
            web.letter(31, v);
            for (int r = 0; r < 31; r++) {
                web.join(r, r, 31, (r >> v & 1) != 0 ? 8 : 2);
            }
        }
        // letter 0 as "letter 0 is 0, and the others 1": 30 becomes 31
        web.put(31, 30, 0, 30);
        for (int r = 0; r < 32; r++) {
            CHECK.due("many(" + r + ")", web.many(r), 1);
            CHECK.due("pick(" + r + ", 0)", web.pick(r, 0), r);
        }
        CHECK.due("count(3)", web.count(3), 32);
    }

    private static void orderAtFirst() {
        CHECK.about("LETTER v at LEVEL v at first");
        CHECK.due("order", House.order(new DecisionWeb()), "0 1 2 3 4 5");
        CHECK.due("order", House.order(House.empty(12, 0)), "0 1 2 3 4 5 6 7 8 9 10 11");
        CHECK.due("order", House.order(House.empty(1, 0)), "0");
    }

    private static void atLevelNoughtNothingIsFixed() {
        CHECK.about("if the LETTERS of the LEVELS ahead of k are fixed");
        DecisionWeb web = House.ofLetters(3, House.ROOMY);
        web.join(3, 0, 1, 6);
        web.join(3, 3, 2, 6);
        CHECK.due("width(3, 0): there is the function alone", web.width(3, 0), 1);
        CHECK.due("width(1, 0): and that does not differ by letter 0", web.width(1, 0), 0);
        CHECK.due("level(0, 1)", web.level(0, 1), 2);
    }

    private static void onlyWhatDiffersIsAFork() {
        CHECK.about("those of them that differ by the LETTER of LEVEL k (being another one with it 0 than with it 1)");
        DecisionWeb web = House.ofLetters(4, House.ROOMY);
        web.constant(20, true);
        CHECK.due("all no", House.widths(web, 21), "0 0 0 0");
        CHECK.due("all yes", House.widths(web, 20), "0 0 0 0");
        CHECK.due("letter 1", House.widths(web, 1), "0 1 0 0");
        CHECK.due("letter 3", House.widths(web, 3), "0 0 0 1");
        web.join(4, 0, 3, 8);
        CHECK.due("0 and 3", House.widths(web, 4), "1 0 0 1");
        web.fork(4, 0, 1, 3);
        CHECK.due("0 then 1 else 3", House.widths(web, 4), "1 1 0 1");
    }

    private static void eachForkOnceHoweverItIsMet() {
        CHECK.about("each once, however it is met");
        DecisionWeb web = House.ofLetters(4, House.ROOMY);
        web.join(4, 0, 1, 6);
        web.join(4, 4, 2, 6);
        web.join(4, 4, 3, 6);
        CHECK.due("whether they are odd, of eight ways two", House.widths(web, 4), "1 2 2 2");
        CHECK.due("size(4)", web.size(4), 7);
        web.fork(5, 0, 1, 2);
        web.fork(5, 5, 3, 1);
        web.join(6, 0, 1, 6);
        web.fork(6, 6, 2, 3);
        CHECK.due("by 0 other than 1: 2, else 3", House.widths(web, 6), "1 2 1 1");
    }

    private static void aFunctionAndItsOppositeShareNoFork() {
        CHECK.about("Its FORKS at LEVEL k are those of them that differ, each once");
        DecisionWeb web = House.ofLetters(1, 2);
        CHECK.due("join(1, 0, 0, 1)", web.join(1, 0, 0, 1), 0);
        CHECK.due("count(2): letter 0 and not letter 0", web.count(2), 2);
    }

    private static void forksOfAllEachOnce() {
        CHECK.about("FORKS of all are those of the FUNCTIONS of all REGISTERS, each once");
        DecisionWeb web = House.ofLetters(3, House.ROOMY);
        web.join(31, 0, 1, 6);
        web.join(31, 31, 2, 6);
        for (int r = 0; r < 16; r++) {
            web.copy(r, 31);
        }
        for (int r = 16; r < 31; r++) {
            web.join(r, 31, 31, 1);
        }
        CHECK.due("size(31)", web.size(31), 5);
        CHECK.due("size(30)", web.size(30), 5);
        CHECK.due("count(2): 31 and 30 share what is below them", web.count(2), 6);
        CHECK.due("widths", House.widthsOfAll(web), "2 2 2");
        web.fix(0, 31, 0, true);
        CHECK.due("a fork of 31 is a register's too", web.count(2), 6);
    }

    private static void asManyAsCapacityOfOneLetter() {
        CHECK.about("There may be as many as CAPACITY");
        DecisionWeb web = House.ofLetters(1, 1);
        CHECK.due("join(1, 0, 0, 1) with room for one", web.join(1, 0, 0, 1), -8);
        CHECK.due("join(0, 0, 0, 1) in its own room", web.join(0, 0, 0, 1), 0);
        CHECK.due("count(2)", web.count(2), 1);
    }

    private static void whatTheRegisterWasDoesNotCount() {
        CHECK.about("a call that would leave more in the REGISTERS");
        DecisionWeb web = House.ofLetters(2, 2);
        CHECK.due("join(2, 0, 1, 8)", web.join(2, 0, 1, 8), -8);
        CHECK.due("join(0, 0, 1, 8): letter 0 goes", web.join(0, 0, 1, 8), 0);
        CHECK.due("count(2)", web.count(2), 2);
        CHECK.due("letter(0, 0): the join goes", web.letter(0, 0), 0);
        CHECK.due("count(2)", web.count(2), 2);
    }

    private static void whatOthersHaveInCommonWithItCounts() {
        CHECK.about("a call that would leave more in the REGISTERS is refused (-8)");
        DecisionWeb web = House.ofLetters(2, 2);
        web.copy(31, 0);
        CHECK.due("join(0, 0, 1, 8): letter 0 stays in 31", web.join(0, 0, 1, 8), -8);
        CHECK.due("join(31, 0, 1, 8): letter 0 stays in 0", web.join(31, 0, 1, 8), -8);
        CHECK.due("letter(0, 1)", web.letter(0, 1), 0);
        CHECK.due("count(2)", web.count(2), 2);
    }

    private static void noRoomAtAll() {
        CHECK.about("CAPACITY 0");
        for (int n = 1; n <= 12; n++) {
            DecisionWeb web = House.empty(n, 0);
            web.constant(1, true);
            for (int v = 0; v < n; v++) {
                CHECK.due("letter", web.letter(0, v), -8);
                CHECK.due("fix", web.fix(2, 1, v, true), 0);
                CHECK.due("put", web.put(2, 1, v, 0), 0);
                CHECK.due("trade", web.trade(2, 1, 0, v), 0);
                CHECK.due("sift", web.sift(v), 0);
            }
            for (int table = 0; table < 16; table++) {
                CHECK.due("join", web.join(3, 0, 1, table), 0);
                CHECK.due("tells: b alone is yes", web.tells(3, 0), table >> 2 & 1);
            }
            CHECK.due("fork", web.fork(3, 1, 0, 1), 0);
            CHECK.due("sum", web.sum(3, 1, (1 << n) - 1, true), 0);
            CHECK.due("near", web.near(4, 1, 1), 0);
            CHECK.due("near, c being all no", web.near(4, 1, 0), -3);
            CHECK.due("copy", web.copy(5, 1), 0);
            CHECK.due("swap(0)", web.swap(0), n == 1 ? -2 : 0);
            CHECK.due("count(2)", web.count(2), 0);
            CHECK.due("count(3)", web.count(3), 0);
        }
    }

    /** All 256 functions of three letters, 16 at a time. */
    private static void theGreatestRoom() {
        CHECK.about("CAPACITY 20000");
        for (int first = 0; first < 256; first += 16) {
            DecisionWeb web = House.empty(3, 20000);
            CHECK.due("count(1)", web.count(1), 20000);
            for (int i = 0; i < 16; i++) {
                House.set(web, i, first + i);
            }
            for (int i = 0; i < 16; i++) {
                CHECK.due("function " + (first + i), web.many(i), Integer.bitCount(first + i));
            }
        }
    }

    private static void neverRefusedForCapacity() {
        CHECK.about("others as told: constant, copy and sift tell of no -8");
        DecisionWeb web = House.empty(4, 4);
        web.letter(0, 2);
        web.letter(1, 3);
        web.join(0, 0, 1, 8);
        web.letter(1, 1);
        web.constant(3, true);
        web.fork(1, 1, 3, 0);
        web.letter(2, 0);
        web.fork(2, 2, 1, 0);
        CHECK.due("count(2), the house being full of '0 and 1, or 2 and 3'", web.count(2), 4);
        CHECK.due("copy(31, 2)", web.copy(31, 2), 0);
        CHECK.due("constant(30, true)", web.constant(30, true), 0);
        CHECK.due("sift(1), though letter 1 behind 2 needs more", web.sift(1), 1);
        CHECK.due("order", House.order(web), "0 1 2 3");
        CHECK.due("swap(1), as that needs more", web.swap(1), -8);
        CHECK.due("count(2)", web.count(2), 4);
    }

    private static void widthsAreSizeTogether() {
        CHECK.about("WIDTH is how many of them stand at a LEVEL");
        for (int table = 0; table < 256; table += 5) {
            DecisionWeb web = House.empty(3, House.ROOMY);
            House.set(web, 7, table);
            CHECK.due("size(7)", web.size(7), web.width(7, 0) + web.width(7, 1) + web.width(7, 2));
            CHECK.due("count(2)", web.count(2), web.level(0, 1) + web.level(1, 1) + web.level(2, 1));
            CHECK.due("there is no other function", web.count(2), web.size(7));
        }
    }

    private static void lowAndHigh() {
        CHECK.about("A FORK's LOW is the FUNCTION with its LETTER 0, its HIGH that with it 1");
        DecisionWeb web = House.ofLetters(2, House.ROOMY);
        web.point(1);
        web.go(false);
        CHECK.due("at() the low of letter 1", web.at(), -2);
        web.point(1);
        web.go(true);
        CHECK.due("at() the high of letter 1", web.at(), -3);
    }

    private static void costsAtFirst() {
        CHECK.about("COSTS (0 to 1000000; 0 at first)");
        for (int n = 1; n <= 12; n++) {
            DecisionWeb web = House.empty(n, 0);
            for (int v = 0; v < n; v++) {
                CHECK.due("cost(" + v + ", 0)", web.cost(v, 0), 0);
            }
            CHECK.due("cost(" + n + ", 0)", web.cost(n, 0), -2);
        }
    }

    private static void costsOfAllLetters() {
        CHECK.about("the COST of an ASSIGNMENT is that of its LETTERS that are 1, together");
        for (int n = 1; n <= 12; n++) {
            DecisionWeb web = House.empty(n, 0);
            for (int v = 0; v < n; v++) {
                web.cost(v, 1000000);
            }
            web.constant(0, true);
            CHECK.due("dearest(0)", web.dearest(0), 1000000 * n);
            CHECK.due("cheapest(0)", web.cheapest(0), 0);
        }
    }

    private static void costOfNoLetter() {
        CHECK.about("that of its LETTERS that are 1");
        DecisionWeb web = House.ofLetters(2, House.ROOMY);
        web.cost(0, 5);
        web.cost(1, 7);
        web.join(2, 0, 1, 1);
        CHECK.due("dearest(2) of assignment 0 alone", web.dearest(2), 0);
        web.join(2, 0, 1, 4);
        CHECK.due("dearest(2) of assignment 2 alone", web.dearest(2), 7);
    }

    private static void nearestOfWhatIsAllowedItself() {
        CHECK.about("of all that are left at a LEVEL those with x's LETTER stay, if there are some");
        for (int c = 1; c < 256; c++) {
            DecisionWeb web = House.empty(3, House.ROOMY);
            House.set(web, 4, c);
            for (int v = 0; v < 3; v++) {
                web.letter(5, v);
                web.near(6, 5, 4);
                web.fork(6, 4, 6, 5);
                CHECK.due("what is allowed is its own nearest", web.same(6, 5), 1);
            }
            web.near(7, 4, 4);
            CHECK.due("every nearest is allowed", web.many(7), 8);
        }
    }

    private static void nearestOfTheOnlyOne() {
        CHECK.about("else the others do");
        for (int only = 0; only < 8; only++) {
            DecisionWeb web = House.ofLetters(3, House.ROOMY);
            House.set(web, 4, 1L << only);
            for (int v = 0; v < 3; v++) {
                web.near(5, v, 4);
                CHECK.due("letter " + v + " of " + only, web.many(5), (only >> v & 1) * 8);
            }
        }
    }

    /** For each c of three letters and each order, by the pairs of which the document tells. */
    private static void nearestLevelByLevel() {
        CHECK.about("that one in which the first LETTER, LEVEL by LEVEL, that any two of them tell otherwise is as in x");
        int[][] swaps = {{}, {0}, {1}, {0, 1}, {1, 0}, {0, 1, 0}};
        int[][] orders = {{0, 1, 2}, {1, 0, 2}, {0, 2, 1}, {1, 2, 0}, {2, 0, 1}, {2, 1, 0}};
        for (int i = 0; i < swaps.length; i++) {
            for (int c = 1; c < 256; c++) {
                DecisionWeb web = House.ofLetters(3, House.ROOMY);
                House.set(web, 4, c);
                for (int k : swaps[i]) {
                    web.swap(k);
                }
                for (int v = 0; v < 3; v++) {
                    web.near(5, v, 4);
                    for (int x = 0; x < 8; x++) {
                        CHECK.due("letter " + v + " of the nearest of " + x + " in " + c + ", order " + i,
                            web.tells(5, x), nearest(x, c, orders[i]) >> v & 1);
                    }
                }
            }
        }
    }

    private static int nearest(int x, int c, int[] order) {
        for (int y = 0; y < 8; y++) {
            boolean led = (c >> y & 1) != 0;
            for (int z = 0; z < 8; z++) {
                led &= z == y || (c >> z & 1) == 0 || (y >> parting(y, z, order) & 1) == (x >> parting(y, z, order) & 1);
            }
            if (led) {
                return y;
            }
        }
        throw new IllegalStateException("there is no nearest");
    }

    private static int parting(int y, int z, int[] order) {
        for (int v : order) {
            if ((y >> v & 1) != (z >> v & 1)) {
                return v;
            }
        }
        throw new IllegalStateException("they are the same");
    }

    private static void memoryIsTheHousesOwn() {
        CHECK.about("All memory is the house's own");
        DecisionWeb one = House.ofLetters(3, 10);
        DecisionWeb other = House.ofLetters(4, 20);
        one.cost(1, 5);
        other.cost(1, 6);
        one.swap(0);
        other.swap(2);
        one.join(5, 0, 1, 8);
        one.point(0);
        other.point(3);
        CHECK.due("count(1)", one.count(1), 10);
        CHECK.due("count(1)", other.count(1), 20);
        CHECK.due("order", House.order(one), "1 0 2");
        CHECK.due("order", House.order(other), "0 1 3 2");
        CHECK.due("many(5)", other.many(5), 0);
        CHECK.due("many(5)", one.many(5), 2);
        CHECK.due("at()", one.at(), 0);
        CHECK.due("at()", other.at(), 3);
        CHECK.due("cost(1, 0)", one.cost(1, 0), 5);
        CHECK.due("cost(1, 0)", other.cost(1, 0), 6);
    }
}
