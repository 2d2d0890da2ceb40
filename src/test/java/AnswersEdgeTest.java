/** The boundary cases of promises 15 to 29: a test for each sentence that names one. */
public final class AnswersEdgeTest {
    private static final int LEAST = Integer.MIN_VALUE;
    private static final int MOST = Integer.MAX_VALUE;

    private static final Check CHECK = new Check("AnswersEdgeTest");

    public static void main(String[] args) {
        costOfTheBounds();
        costBeyondTheBounds();
        costOfNoLetter();
        costIsWhatItWas();
        sameOfOne();
        sameButForOneAssignment();
        sameOfAllYesAndAllNo();
        sameOfNoRegister();
        tellsOfTheBounds();
        tellsBeyondTheBounds();
        manyOfNoneAndAll();
        pickOfTheFirstAndLast();
        pickOfNoneSuch();
        pickOfAllNo();
        pickByNumbers();
        cheapestOfSeveral();
        cheapestBehindALargerHouse();
        cheapestOfNone();
        cheapestOfTheGreatestCosts();
        dearestOfNone();
        dearestOfNought();
        dearestOfTheGreatestCosts();
        lettersOfNoneAndAll();
        lettersThatCancel();
        lettersAreNotLevels();
        sizeOfNone();
        sizeOfOthersDoesNotCount();
        sizeOfTwelveLetters();
        widthOfTheBounds();
        widthBeyondTheBounds();
        pointAtAllNoAndAllYes();
        pointAtNoRegister();
        pointBeginsAnew();
        goFromAllNo();
        goFromAllYes();
        goPassesLevelsThatDoNotMatter();
        goToTheLastLevelOfTwelve();
        goByTheOrder();
        atFirst();
        atBehindWhatWasDone();
        atBehindWhatWasDoneAndAlteredNothing();
        atBehindWhatWasRefused();
        atBehindQuestions();
        levelOfTheBounds();
        levelThatIsNone();
        levelOfAnotherWhat();
        levelCountsForksOfAllOnce();
        countOfTheBounds();
        countOfAnotherWhat();
        countOfSettledRegisters();
        CHECK.end();
    }

    private static DecisionWeb house() {
        return House.ofLetters(3, House.ROOMY);
    }

    private static void costOfTheBounds() {
        CHECK.about("15: A LETTER's COST (0 to 1000000)");
        DecisionWeb web = house();
        CHECK.due("cost(2, 1000000)", web.cost(2, 1000000), 0);
        CHECK.due("cost(2, 0)", web.cost(2, 0), 1000000);
        CHECK.due("cost(2, 0)", web.cost(2, 0), 0);
    }

    private static void costBeyondTheBounds() {
        CHECK.about("15: -2 (also if cost is not 0 to 1000000)");
        DecisionWeb web = house();
        web.cost(0, 7);
        int[] wrong = {-1, 1000001, 1000002, LEAST, MOST};
        for (int cost : wrong) {
            CHECK.due("cost(0, " + cost + ")", web.cost(0, cost), -2);
        }
        CHECK.due("cost(0, 7)", web.cost(0, 7), 7);
        CHECK.due("dearest(0)", web.dearest(0), 7);
    }

    private static void costOfNoLetter() {
        CHECK.about("15: -2");
        for (int n = 1; n <= 12; n++) {
            DecisionWeb web = House.empty(n, 0);
            int[] wrong = {-1, n, 12, 13, LEAST, MOST};
            for (int v : wrong) {
                CHECK.due("cost(" + v + ", 5) of " + n, web.cost(v, 5), -2);
                CHECK.due("cost(" + v + ", -1) of " + n, web.cost(v, -1), -2);
            }
            CHECK.due("cost(n - 1, 5) of " + n, web.cost(n - 1, 5), 0);
        }
    }

    private static void costIsWhatItWas() {
        CHECK.about("15: what it was");
        DecisionWeb web = house();
        CHECK.due("cost(1, 3)", web.cost(1, 3), 0);
        CHECK.due("cost(1, 3)", web.cost(1, 3), 3);
        CHECK.due("cost(0, 4)", web.cost(0, 4), 0);
        web.swap(0);
        CHECK.due("cost(1, 5): the LETTER's, whatever its LEVEL", web.cost(1, 5), 3);
    }

    private static void sameOfOne() {
        CHECK.about("16: Whether REGISTERS a and b tell the same: 1, 0 (being one)");
        DecisionWeb web = house();
        CHECK.due("same(0, 0)", web.same(0, 0), 1);
        CHECK.due("same(31, 31)", web.same(31, 31), 1);
    }

    private static void sameButForOneAssignment() {
        CHECK.about("16: Whether REGISTERS a and b tell the same: 1, 0 (but for one ASSIGNMENT)");
        for (int n = 1; n <= 12; n++) {
            DecisionWeb web = House.ofLetters(n, House.ROOMY);
            web.constant(20, true);
            web.constant(21, true);
            for (int v = 0; v < n; v++) {
                web.join(20, 20, v, 8);
                web.join(21, 21, v, 2);
            }
            CHECK.due("same: the greatest alone, and none", web.same(20, 31), 0);
            CHECK.due("same: 0 alone, and none", web.same(21, 31), 0);
            CHECK.due("same: the greatest alone, and 0 alone", web.same(20, 21), 0);
            web.copy(22, 20);
            CHECK.due("same: the greatest alone, twice", web.same(22, 20), 1);
        }
    }

    private static void sameOfAllYesAndAllNo() {
        CHECK.about("16: Whether REGISTERS a and b tell the same: 1, 0 (all yes, all no)");
        for (int n = 1; n <= 12; n++) {
            DecisionWeb web = House.empty(n, 0);
            web.constant(0, true);
            web.constant(1, true);
            CHECK.due("same(0, 1)", web.same(0, 1), 1);
            CHECK.due("same(0, 2)", web.same(0, 2), 0);
            CHECK.due("same(2, 3)", web.same(2, 3), 1);
        }
    }

    private static void sameOfNoRegister() {
        CHECK.about("16: -2");
        for (int r : House.NO_REGISTER) {
            CHECK.due("same(" + r + ", 0)", house().same(r, 0), -2);
            CHECK.due("same(0, " + r + ")", house().same(0, r), -2);
            CHECK.due("same(" + r + ", " + r + ")", house().same(r, r), -2);
        }
    }

    private static void tellsOfTheBounds() {
        CHECK.about("17: What REGISTER a tells of an ASSIGNMENT: 1, 0 (the least, the greatest)");
        for (int n = 1; n <= 12; n++) {
            DecisionWeb web = House.ofLetters(n, House.ROOMY);
            CHECK.due("tells(0, 0)", web.tells(0, 0), 0);
            CHECK.due("tells(0, greatest)", web.tells(0, (1 << n) - 1), 1);
            web.join(0, 0, 0, 1);
            CHECK.due("tells(0, 0)", web.tells(0, 0), 1);
            CHECK.due("tells(0, greatest)", web.tells(0, (1 << n) - 1), 0);
        }
    }

    private static void tellsBeyondTheBounds() {
        CHECK.about("17: -2");
        for (int n = 1; n <= 12; n++) {
            DecisionWeb web = House.empty(n, 0);
            web.constant(0, true);
            int[] wrong = {-1, 1 << n, (1 << n) + 1, 4096, LEAST, MOST};
            for (int x : wrong) {
                CHECK.due("tells(0, " + x + ") of " + n, web.tells(0, x), -2);
            }
        }
        for (int r : House.NO_REGISTER) {
            CHECK.due("tells(" + r + ", 0)", house().tells(r, 0), -2);
        }
    }

    private static void manyOfNoneAndAll() {
        CHECK.about("18: How many ASSIGNMENTS REGISTER a tells yes (none, one, all but one, all)");
        for (int n = 1; n <= 12; n++) {
            DecisionWeb web = House.ofLetters(n, House.ROOMY);
            CHECK.due("none", web.many(31), 0);
            web.constant(30, true);
            CHECK.due("all", web.many(30), 1 << n);
            for (int v = 0; v < n; v++) {
                web.join(30, 30, v, 8);
            }
            CHECK.due("one", web.many(30), 1);
            web.join(30, 30, 30, 1);
            CHECK.due("all but one", web.many(30), (1 << n) - 1);
        }
        for (int r : House.NO_REGISTER) {
            CHECK.due("many(" + r + ")", house().many(r), -2);
        }
    }

    private static void pickOfTheFirstAndLast() {
        CHECK.about("19: The i-th (from 0 on) ASSIGNMENT that REGISTER a tells yes");
        for (int n = 1; n <= 12; n++) {
            DecisionWeb web = House.ofLetters(n, House.ROOMY);
            int half = 1 << n - 1;
            CHECK.due("pick(n - 1, 0)", web.pick(n - 1, 0), half);
            CHECK.due("pick(n - 1, the last)", web.pick(n - 1, half - 1), 2 * half - 1);
            CHECK.due("pick(0, 0)", web.pick(0, 0), 1);
            CHECK.due("pick(0, the last)", web.pick(0, half - 1), 2 * half - 1);
            web.constant(20, true);
            CHECK.due("pick of all, 0", web.pick(20, 0), 0);
            CHECK.due("pick of all, the last", web.pick(20, 2 * half - 1), 2 * half - 1);
        }
    }

    private static void pickOfNoneSuch() {
        CHECK.about("19: NONE if there is none such");
        for (int n = 1; n <= 12; n++) {
            DecisionWeb web = House.ofLetters(n, House.ROOMY);
            int half = 1 << n - 1;
            int[] none = {half, half + 1, 1 << n, 4096, -1, -2, LEAST, MOST};
            for (int i : none) {
                CHECK.due("pick(0, " + i + ") of " + n, web.pick(0, i), DecisionWeb.NONE);
            }
            web.constant(20, true);
            CHECK.due("pick of all, one too many", web.pick(20, 1 << n), DecisionWeb.NONE);
        }
        for (int r : House.NO_REGISTER) {
            CHECK.due("pick(" + r + ", 0)", house().pick(r, 0), -2);
            CHECK.due("pick(" + r + ", -1)", house().pick(r, -1), -2);
        }
    }

    private static void pickOfAllNo() {
        CHECK.about("19: NONE if there is none such (all no)");
        CHECK.due("pick(31, 0)", house().pick(31, 0), DecisionWeb.NONE);
        CHECK.due("pick(31, -1)", house().pick(31, -1), DecisionWeb.NONE);
        CHECK.due("pick(31, MOST)", house().pick(31, MOST), DecisionWeb.NONE);
    }

    private static void pickByNumbers() {
        CHECK.about("19: by their numbers (whatever the ORDER)");
        for (int k = 0; k < 11; k++) {
            DecisionWeb web = House.empty(12, House.ROOMY);
            web.swap(k);
            web.constant(0, true);
            for (int i = 1; i < 4096; i = 3 * i + 1) {
                CHECK.due("pick(0, " + i + ")", web.pick(0, i), i);
            }
        }
    }

    private static void cheapestOfSeveral() {
        CHECK.about("20: the one with the least COST, of several the least number");
        DecisionWeb web = house();
        web.join(3, 0, 1, 14);
        CHECK.due("all cost 0", web.cheapest(3), 1);
        for (int v = 0; v < 3; v++) {
            web.cost(v, 6);
        }
        CHECK.due("1 and 2 cost the same", web.cheapest(3), 1);
        web.cost(1, 5);
        CHECK.due("2 costs less", web.cheapest(3), 2);
        web.cost(2, 0);
        CHECK.due("2 and 6 cost the same", web.cheapest(3), 2);
        web.swap(1);
        web.swap(0);
        CHECK.due("whatever the order", web.cheapest(3), 2);
        web.constant(4, true);
        CHECK.due("0 and 4 cost nothing", web.cheapest(4), 0);
    }

    private static void cheapestBehindALargerHouse() {
        CHECK.about("20: the one with the least COST, 21: The greatest COST (whatever was asked ahead of it)");
        DecisionWeb web = House.ofLetters(12, House.ROOMY);
        for (int v = 0; v < 12; v++) {
            web.cost(v, 1000000 - v);
        }
        web.near(20, 0, 11);
        web.cheapest(20);
        web.fresh(2, 10);
        web.letter(1, 1);
        web.cost(1, 3);
        CHECK.due("cheapest(1)", web.cheapest(1), 2);
        CHECK.due("dearest(1)", web.dearest(1), 3);
        CHECK.due("pick(1, 1)", web.pick(1, 1), 3);
        CHECK.due("pick(1, 2)", web.pick(1, 2), DecisionWeb.NONE);
        web.near(2, 1, 1);
        CHECK.due("cheapest(1) behind near", web.cheapest(1), 2);
        web.near(2, 1, 1);
        CHECK.due("dearest(1) behind near", web.dearest(1), 3);
        web.near(2, 1, 1);
        CHECK.due("pick(1, 2) behind near", web.pick(1, 2), DecisionWeb.NONE);
    }

    private static void cheapestOfNone() {
        CHECK.about("20: NONE if there is none");
        for (int n = 1; n <= 12; n++) {
            CHECK.due("cheapest(31)", House.empty(n, 0).cheapest(31), DecisionWeb.NONE);
        }
        for (int r : House.NO_REGISTER) {
            CHECK.due("cheapest(" + r + ")", house().cheapest(r), -2);
        }
    }

    private static void cheapestOfTheGreatestCosts() {
        CHECK.about("20: the one with the least COST (all being the greatest)");
        DecisionWeb web = House.ofLetters(12, House.ROOMY);
        web.constant(20, true);
        for (int v = 0; v < 12; v++) {
            web.cost(v, 1000000);
            web.join(20, 20, v, 8);
        }
        CHECK.due("the greatest assignment alone", web.cheapest(20), 4095);
        CHECK.due("letter 11", web.cheapest(11), 2048);
        web.cost(0, 999999);
        web.join(21, 0, 11, 14);
        CHECK.due("letter 0 or 11", web.cheapest(21), 1);
        web.cost(11, 999998);
        CHECK.due("letter 0 or 11", web.cheapest(21), 2048);
    }

    private static void dearestOfNone() {
        CHECK.about("21: NONE if there is none");
        for (int n = 1; n <= 12; n++) {
            CHECK.due("dearest(31)", House.empty(n, 0).dearest(31), DecisionWeb.NONE);
        }
        for (int r : House.NO_REGISTER) {
            CHECK.due("dearest(" + r + ")", house().dearest(r), -2);
        }
    }

    private static void dearestOfNought() {
        CHECK.about("21: The greatest COST of those that REGISTER a tells yes (being 0)");
        DecisionWeb web = house();
        CHECK.due("all costs are 0", web.dearest(0), 0);
        web.cost(0, 9);
        web.cost(1, 9);
        web.cost(2, 9);
        web.join(3, 0, 1, 1);
        web.join(3, 3, 2, 2);
        CHECK.due("assignment 0 alone", web.dearest(3), 0);
    }

    private static void dearestOfTheGreatestCosts() {
        CHECK.about("21: The greatest COST (of all LETTERS)");
        DecisionWeb web = House.ofLetters(12, House.ROOMY);
        for (int v = 0; v < 12; v++) {
            web.cost(v, 1000000);
        }
        CHECK.due("dearest(0)", web.dearest(0), 12000000);
        web.join(20, 0, 0, 1);
        CHECK.due("letter 0 being 0", web.dearest(20), 11000000);
    }

    private static void lettersOfNoneAndAll() {
        CHECK.about("22: The LETTERS by which REGISTER a differs, as a mask (none, all)");
        for (int n = 1; n <= 12; n++) {
            DecisionWeb web = House.ofLetters(n, House.ROOMY);
            CHECK.due("all no", web.letters(31), 0);
            web.constant(30, true);
            CHECK.due("all yes", web.letters(30), 0);
            for (int v = 0; v < n; v++) {
                web.join(29, 29, v, 6);
                web.join(30, 30, v, 8);
            }
            CHECK.due("whether they are odd", web.letters(29), (1 << n) - 1);
            CHECK.due("whether all are 1", web.letters(30), (1 << n) - 1);
        }
        for (int r : House.NO_REGISTER) {
            CHECK.due("letters(" + r + ")", house().letters(r), -2);
        }
    }

    private static void lettersThatCancel() {
        CHECK.about("22: The LETTERS by which REGISTER a differs");
        DecisionWeb web = house();
        web.join(3, 0, 2, 6);
        web.join(3, 3, 2, 6);
        CHECK.due("0 other than 2, other than 2", web.letters(3), 1);
        web.join(3, 3, 0, 6);
        CHECK.due("and other than 0", web.letters(3), 0);
    }

    private static void lettersAreNotLevels() {
        CHECK.about("22: The LETTERS, as a mask");
        DecisionWeb web = House.ofLetters(12, House.ROOMY);
        for (int k = 0; k < 11; k++) {
            web.swap(k);
        }
        for (int v = 0; v < 12; v++) {
            CHECK.due("letters(" + v + ")", web.letters(v), 1 << v);
        }
    }

    private static void sizeOfNone() {
        CHECK.about("23: The SIZE of REGISTER a (none)");
        DecisionWeb web = house();
        CHECK.due("all no", web.size(31), 0);
        web.constant(31, true);
        CHECK.due("all yes", web.size(31), 0);
        CHECK.due("a letter", web.size(2), 1);
        for (int r : House.NO_REGISTER) {
            CHECK.due("size(" + r + ")", house().size(r), -2);
        }
    }

    private static void sizeOfOthersDoesNotCount() {
        CHECK.about("23: The SIZE of REGISTER a (and of no other)");
        DecisionWeb web = house();
        web.join(3, 0, 1, 6);
        CHECK.due("size(3)", web.size(3), 3);
        web.join(4, 3, 2, 6);
        CHECK.due("size(4)", web.size(4), 5);
        CHECK.due("size(3)", web.size(3), 3);
        CHECK.due("size(1), though it is below 3", web.size(1), 1);
    }

    private static void sizeOfTwelveLetters() {
        CHECK.about("23: The SIZE of REGISTER a (of the most LETTERS)");
        DecisionWeb web = House.ofLetters(12, House.ROOMY);
        for (int v = 0; v < 6; v++) {
            web.join(30, v, 6 + v, 8);
            web.join(31, 31, 30, 14);
        }
        CHECK.due("0 and 6, or 1 and 7, ...", web.size(31), 126);
        CHECK.due("widths", House.widths(web, 31), "1 2 4 8 16 32 32 16 8 4 2 1");
    }

    private static void widthOfTheBounds() {
        CHECK.about("24: How many FORKS of REGISTER a stand at a LEVEL (the first, the last)");
        for (int n = 1; n <= 12; n++) {
            DecisionWeb web = House.ofLetters(n, House.ROOMY);
            CHECK.due("width(0, 0)", web.width(0, 0), 1);
            CHECK.due("width(n - 1, n - 1)", web.width(n - 1, n - 1), 1);
            CHECK.due("width(0, n - 1)", web.width(0, n - 1), n == 1 ? 1 : 0);
            CHECK.due("width(31, n - 1)", web.width(31, n - 1), 0);
        }
    }

    private static void widthBeyondTheBounds() {
        CHECK.about("24: -2");
        for (int n = 1; n <= 12; n++) {
            DecisionWeb web = House.ofLetters(n, House.ROOMY);
            int[] wrong = {-1, n, 12, 13, LEAST, MOST};
            for (int k : wrong) {
                CHECK.due("width(0, " + k + ") of " + n, web.width(0, k), -2);
            }
        }
        for (int r : House.NO_REGISTER) {
            CHECK.due("width(" + r + ", 0)", house().width(r, 0), -2);
        }
    }

    private static void pointAtAllNoAndAllYes() {
        CHECK.about("25: The POINTER is at the FUNCTION of REGISTER a (all no, all yes)");
        DecisionWeb web = house();
        web.constant(31, true);
        CHECK.due("point(31)", web.point(31), 0);
        CHECK.due("at()", web.at(), -3);
        CHECK.due("point(30)", web.point(30), 0);
        CHECK.due("at()", web.at(), -2);
        CHECK.due("point(0)", web.point(0), 0);
        CHECK.due("at()", web.at(), 0);
    }

    private static void pointAtNoRegister() {
        CHECK.about("25: -2");
        DecisionWeb web = house();
        web.point(2);
        for (int r : House.NO_REGISTER) {
            CHECK.due("point(" + r + ")", web.point(r), -2);
            CHECK.due("at() stays", web.at(), 2);
        }
    }

    private static void pointBeginsAnew() {
        CHECK.about("25: The POINTER is at the FUNCTION of REGISTER a");
        DecisionWeb web = house();
        web.join(3, 0, 1, 8);
        web.point(3);
        web.go(true);
        CHECK.due("at()", web.at(), 1);
        web.point(3);
        CHECK.due("at() behind point(3) again", web.at(), 0);
        web.go(true);
        web.point(2);
        CHECK.due("at() behind point(2)", web.at(), 2);
    }

    private static void goFromAllNo() {
        CHECK.about("26: else, being all yes or all no, it stays (all no)");
        DecisionWeb web = house();
        CHECK.due("go(false) at first", web.go(false), false);
        CHECK.due("go(true) at first", web.go(true), false);
        web.point(0);
        web.go(false);
        CHECK.due("at()", web.at(), -2);
        CHECK.due("go(false)", web.go(false), false);
        CHECK.due("go(true)", web.go(true), false);
        CHECK.due("at()", web.at(), -2);
    }

    private static void goFromAllYes() {
        CHECK.about("26: else, being all yes or all no, it stays (all yes)");
        DecisionWeb web = house();
        web.point(0);
        web.go(true);
        CHECK.due("at()", web.at(), -3);
        CHECK.due("go(false)", web.go(false), false);
        CHECK.due("go(true)", web.go(true), false);
        CHECK.due("at()", web.at(), -3);
    }

    private static void goPassesLevelsThatDoNotMatter() {
        CHECK.about("26: the FORK of the FUNCTION at which it is (the first by LEVELS)");
        DecisionWeb web = House.ofLetters(12, House.ROOMY);
        web.join(20, 3, 9, 6);
        web.point(20);
        CHECK.due("at()", web.at(), 3);
        CHECK.due("go(true)", web.go(true), true);
        CHECK.due("at()", web.at(), 9);
        CHECK.due("go(true)", web.go(true), true);
        CHECK.due("at()", web.at(), -2);
    }

    private static void goToTheLastLevelOfTwelve() {
        CHECK.about("26: goes to the LOW (false) or HIGH (true): whether there is one");
        DecisionWeb web = House.ofLetters(12, House.ROOMY);
        for (int v = 0; v < 12; v++) {
            web.join(20, 20, v, 6);
        }
        for (int way = 0; way < 4; way++) {
            web.point(20);
            int ones = 0;
            for (int v = 0; v < 12; v++) {
                boolean high = way == 3 || way == 1 && v == 11 || way == 2 && v % 3 == 0;
                CHECK.due("at()", web.at(), v);
                CHECK.due("go", web.go(high), true);
                ones += high ? 1 : 0;
            }
            CHECK.due("at() behind the last", web.at(), ones % 2 == 1 ? -3 : -2);
            CHECK.due("go behind the last", web.go(true), false);
        }
    }

    private static void goByTheOrder() {
        CHECK.about("26: (the first by LEVELS), which are not the LETTERS' numbers");
        DecisionWeb web = house();
        web.join(3, 0, 2, 2);
        web.swap(1);
        web.swap(0);
        CHECK.due("order", House.order(web), "2 0 1");
        web.point(3);
        CHECK.due("at()", web.at(), 2);
        web.go(false);
        CHECK.due("at()", web.at(), 0);
        web.go(true);
        CHECK.due("at()", web.at(), -3);
    }

    private static void atFirst() {
        CHECK.about("27: It is at all no at first");
        CHECK.due("at()", new DecisionWeb().at(), -2);
    }

    /**
     * Four letters, register 4 being all yes, and the pointer there or at a fork of register 3. Of the
     * others 20 alone is all no, so that a pointer which rests at a register is found.
     */
    private static DecisionWeb pointed(boolean atFork) {
        DecisionWeb web = House.ofLetters(4, House.ROOMY);
        for (int r = 4; r < 32; r++) {
            web.constant(r, r != 20);
        }
        web.point(atFork ? 3 : 4);
        CHECK.due("at()", web.at(), atFork ? 3 : -3);
        return web;
    }

    private static void atBehindWhatWasDone() {
        CHECK.about("27: and behind each call of fresh() to sift() that was done");
        boolean[] both = {true, false};
        for (boolean atFork : both) {
            DecisionWeb fresh = pointed(atFork);
            fresh.fresh(4, 100);
            CHECK.due("at() behind fresh", fresh.at(), -2);
            CHECK.due("go(true) behind fresh", fresh.go(true), false);
            for (Call call : Call.named("constant", "letter", "join", "fork", "fix", "put", "sum", "trade", "near", "copy", "swap", "sift")) {
                DecisionWeb web = pointed(atFork);
                CHECK.due(call + " is done", call.answer(web) >= 0, true);
                CHECK.due("at() behind " + call, web.at(), -2);
                CHECK.due("go(true) behind " + call, web.go(true), false);
            }
        }
    }

    private static void atBehindWhatWasDoneAndAlteredNothing() {
        CHECK.about("27: behind each call that was done (though all is as it was)");
        Call[] calls = {
            new Call("constant", "RB", 4, 1), new Call("letter", "RV", 3, 3), new Call("join", "RRRT", 3, 3, 3, 8),
            new Call("fork", "RRRR", 3, 3, 3, 3), new Call("fix", "RRVB", 3, 3, 0, 1), new Call("put", "RRVR", 3, 3, 3, 3),
            new Call("sum", "RRAB", 3, 3, 0, 1), new Call("trade", "RRVV", 3, 3, 1, 1), new Call("near", "RRR", 3, 3, 4),
            new Call("copy", "RR", 3, 3), new Call("sift", "V", 0)
        };
        for (Call call : calls) {
            DecisionWeb web = pointed(true);
            CHECK.due(call.toString(), call.answer(web), 0);
            CHECK.due("at() behind " + call, web.at(), -2);
            CHECK.due("the function stays", web.letters(3), 8);
        }
    }

    private static void atBehindWhatWasRefused() {
        CHECK.about("27: that was done (and not behind one that was refused)");
        Call[] refused = {
            new Call("constant", "RB", 32, 1), new Call("letter", "RV", 3, 4), new Call("join", "RRRT", 3, 3, 3, 16),
            new Call("fork", "RRRR", 3, 3, 3, 32), new Call("fix", "RRVB", 3, 3, 4, 1), new Call("put", "RRVR", 3, 3, 4, 3),
            new Call("sum", "RRAB", 3, 3, 16, 1), new Call("trade", "RRVV", 3, 3, 1, 4), new Call("near", "RRR", 3, 3, 20),
            new Call("copy", "RR", 3, 32), new Call("swap", "U", 3), new Call("sift", "V", 4)
        };
        DecisionWeb web = pointed(true);
        for (Call call : refused) {
            CHECK.due(call + " is refused", call.answer(web) < -1, true);
            CHECK.due("at() behind " + call, web.at(), 3);
        }
        CHECK.due("fresh(13, 100)", web.fresh(13, 100), false);
        CHECK.due("at() behind fresh(13, 100)", web.at(), 3);
    }

    private static void atBehindQuestions() {
        CHECK.about("27: fresh() to sift() (and no other call)");
        DecisionWeb web = pointed(true);
        for (Call call : Call.named("cost", "same", "tells", "many", "pick", "cheapest", "dearest", "letters", "size", "width")) {
            CHECK.due(call + " is done", call.answer(web) >= -1, true);
            CHECK.due("at() behind " + call, web.at(), 3);
        }
        web.level(0, 0);
        web.level(0, 1);
        for (int what = 0; what < 4; what++) {
            web.count(what);
        }
        web.at();
        CHECK.due("at() behind level and count", web.at(), 3);
    }

    private static void levelOfTheBounds() {
        CHECK.about("28: Of LEVEL k: 0 its LETTER, 1 the WIDTH there");
        for (int n = 1; n <= 12; n++) {
            DecisionWeb web = House.ofLetters(n, House.ROOMY);
            CHECK.due("level(0, 0)", web.level(0, 0), 0);
            CHECK.due("level(n - 1, 0)", web.level(n - 1, 0), n - 1);
            CHECK.due("level(0, 1)", web.level(0, 1), 1);
            CHECK.due("level(n - 1, 1)", web.level(n - 1, 1), 1);
        }
        CHECK.due("level(5, 1) of an empty house", new DecisionWeb().level(5, 1), 0);
    }

    private static void levelThatIsNone() {
        CHECK.about("28: NONE if there is no such LEVEL");
        for (int n = 1; n <= 12; n++) {
            DecisionWeb web = House.ofLetters(n, House.ROOMY);
            int[] wrong = {-1, n, 12, 13, LEAST, MOST};
            for (int k : wrong) {
                for (int what = -1; what < 3; what++) {
                    CHECK.due("level(" + k + ", " + what + ") of " + n, web.level(k, what), DecisionWeb.NONE);
                }
            }
        }
    }

    private static void levelOfAnotherWhat() {
        CHECK.about("28: or for another what");
        int[] other = {-1, 2, 3, LEAST, MOST};
        for (int what : other) {
            CHECK.due("level(0, " + what + ")", house().level(0, what), DecisionWeb.NONE);
            CHECK.due("level(2, " + what + ")", house().level(2, what), DecisionWeb.NONE);
        }
    }

    private static void levelCountsForksOfAllOnce() {
        CHECK.about("28: the WIDTH there (FORKS of all REGISTERS)");
        DecisionWeb web = house();
        web.join(31, 0, 2, 8);
        CHECK.due("letter 2 is below 31 and in 2", House.widthsOfAll(web), "2 1 1");
        web.join(30, 2, 2, 1);
        CHECK.due("and not letter 2", House.widthsOfAll(web), "2 1 2");
    }

    private static void countOfTheBounds() {
        CHECK.about("29: 0 N, 1 CAPACITY, 2 FORKS of all REGISTERS");
        for (int n = 1; n <= 12; n++) {
            DecisionWeb web = House.ofLetters(n, n);
            CHECK.due("count(0)", web.count(0), n);
            CHECK.due("count(1)", web.count(1), n);
            CHECK.due("count(2), the house being full", web.count(2), n);
            web.fresh(n, 20000);
            CHECK.due("count(1)", web.count(1), 20000);
            CHECK.due("count(2), the house being empty", web.count(2), 0);
        }
    }

    private static void countOfAnotherWhat() {
        CHECK.about("29: NONE for another what");
        int[] other = {-1, 4, 5, LEAST, MOST};
        for (int what : other) {
            CHECK.due("count(" + what + ")", house().count(what), DecisionWeb.NONE);
        }
    }

    private static void countOfSettledRegisters() {
        CHECK.about("29: 3 REGISTERS that are neither all yes nor all no (none, all)");
        for (int n = 1; n <= 12; n++) {
            DecisionWeb web = House.empty(n, House.ROOMY);
            CHECK.due("all being all no", web.count(3), 0);
            for (int r = 0; r < 32; r++) {
                web.constant(r, true);
            }
            CHECK.due("all being all yes", web.count(3), 0);
            for (int r = 0; r < 32; r++) {
                web.letter(r, r % n);
            }
            CHECK.due("none being that", web.count(3), 32);
            web.constant(0, false);
            web.constant(31, true);
            CHECK.due("two being that", web.count(3), 30);
        }
    }
}
