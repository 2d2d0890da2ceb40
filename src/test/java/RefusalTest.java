import java.util.ArrayList;
import java.util.List;
import java.util.Random;

/**
 * "Each call gives 0 where nothing else is said, or a refusal ... the first of these in the order
 * told. One that is refused changes nothing": every call, every argument, both sides of each bound.
 */
public final class RefusalTest {
    /** The calls that the document lets answer -8; in the full house each of them needs more forks. */
    private static final Call[] GROWING = Call.named("letter", "join", "fork", "fix", "put", "sum", "trade", "near", "swap");
    /** In the full house of these tests register 20 is all no. */
    private static final int ALL_NO = 20;
    private static final int FORKS_OF_HOUSE = 7;
    /** How many calls a house grows by. */
    private static final int GROWTH = 250;

    private static final Check CHECK = new Check("RefusalTest");

    public static void main(String[] args) {
        insideTheRangesNothingIsRefusedForThem();
        outsideTheRanges();
        rangeAheadOfAllElse();
        nothingAllowedAheadOfCapacity();
        asManyForksAsCapacity();
        oneForkMoreThanCapacity();
        capacityOfGrowingHouses();
        asManyForksAsThereCanBe();
        refusedForRangeChangesNothing();
        refusedForNothingAllowedChangesNothing();
        refusedForCapacityChangesNothing();
        refusedFreshChangesNothing();
        doneGivesNought();
        CHECK.end();
    }

    /**
     * Letters, costs, an order and a pointer that are not those at first; register 4 is "0 and 1, or 2
     * and not 3", made in such a way that there never are more forks than at last.
     */
    private static DecisionWeb house(int capacity) {
        DecisionWeb web = House.empty(4, capacity);
        web.constant(5, true);
        web.letter(0, 2);
        web.letter(1, 3);
        web.join(0, 0, 1, 2);
        web.letter(1, 1);
        web.fork(1, 1, 5, 0);
        web.letter(4, 0);
        web.fork(4, 4, 1, 0);
        web.constant(1, false);
        web.constant(0, false);
        web.swap(0);
        web.letter(0, 0);
        web.letter(1, 1);
        web.letter(2, 2);
        for (int v = 0; v < 4; v++) {
            web.cost(v, 5 + v);
        }
        web.point(4);
        web.go(false);
        return web;
    }

    private static DecisionWeb fullHouse() {
        DecisionWeb web = house(FORKS_OF_HOUSE);
        CHECK.due("the house is full", web.count(2), FORKS_OF_HOUSE);
        return web;
    }

    private static int forksBehind(Call call) {
        DecisionWeb web = house(House.ROOMY);
        CHECK.due(call.toString(), call.answer(web), 0);
        return web.count(2);
    }

    private static void insideTheRangesNothingIsRefusedForThem() {
        CHECK.about("-2: there is no such REGISTER, LETTER, LEVEL, or a number is out of its range");
        for (int n = 1; n <= 12; n++) {
            for (Call call : Call.RANGED) {
                if (n == 1 && call.name().equals("swap")) {
                    continue;
                }
                for (int i = 0; i < call.args().length; i++) {
                    if (call.isRanged(i)) {
                        int last = Call.bound(call.kinds().charAt(i), n) - 1;
                        dueInRange(n, call.forLetters(n).with(i, 0));
                        dueInRange(n, call.forLetters(n).with(i, last));
                    }
                }
            }
        }
    }

    private static void dueInRange(int n, Call call) {
        int got = call.answer(House.ofLetters(n, House.ROOMY));
        CHECK.due(call + " of " + n + " letters is -2", got == -2, false);
    }

    private static void outsideTheRanges() {
        CHECK.about("-2: there is no such REGISTER, LETTER, LEVEL, or a number is out of its range");
        for (int n = 1; n <= 12; n++) {
            DecisionWeb web = House.ofLetters(n, House.ROOMY);
            for (Call call : Call.RANGED) {
                for (int i = 0; i < call.args().length; i++) {
                    if (call.isRanged(i)) {
                        int bound = Call.bound(call.kinds().charAt(i), n);
                        dueOutOfRange(web, call.forLetters(n).with(i, -1));
                        dueOutOfRange(web, call.forLetters(n).with(i, bound));
                    }
                }
            }
        }
    }

    private static void dueOutOfRange(DecisionWeb web, Call call) {
        CHECK.due(call + " of " + web.count(0) + " letters", call.answer(web), -2);
    }

    /** Numbers next to the bounds for 4 letters, and far ones that a narrower number would take for 0 or 1. */
    private static int[] outsideOf(char kind) {
        int bound = Call.bound(kind, 4);
        return new int[] {-1, bound, bound + 1, -bound, 1 << 24 | 1, 1 << 30, Integer.MIN_VALUE, Integer.MAX_VALUE};
    }

    private static void rangeAheadOfAllElse() {
        CHECK.about("the first of these in the order told");
        DecisionWeb full = fullHouse();
        for (Call call : GROWING) {
            CHECK.due(call + " by itself", call.answer(full), -8);
            for (int i = 0; i < call.args().length; i++) {
                if (call.isRanged(i)) {
                    for (int value : outsideOf(call.kinds().charAt(i))) {
                        Call wrong = call.with(i, value);
                        CHECK.due(wrong + ", being -8 but for the range", wrong.answer(full), -2);
                    }
                }
            }
        }
        Call nothing = new Call("near", "RRR", 9, 1, ALL_NO);
        CHECK.due(nothing.toString(), nothing.answer(full), -3);
        for (int value : House.NO_REGISTER) {
            CHECK.due("near r, c being all no", nothing.with(0, value).answer(full), -2);
            CHECK.due("near a, c being all no", nothing.with(1, value).answer(full), -2);
        }
    }

    private static void nothingAllowedAheadOfCapacity() {
        CHECK.about("-2; -3: c is all no; -8");
        DecisionWeb full = fullHouse();
        CHECK.due("near(9, 2, 4)", full.near(9, 2, 4), -8);
        CHECK.due("near(9, 2, 20)", full.near(9, 2, ALL_NO), -3);
        CHECK.due("near(9, 4, 20)", full.near(9, 4, ALL_NO), -3);
    }

    private static void asManyForksAsCapacity() {
        CHECK.about("There may be as many as CAPACITY");
        for (Call call : GROWING) {
            int needed = forksBehind(call);
            CHECK.due(call + " needs more forks", needed > FORKS_OF_HOUSE, true);
            DecisionWeb web = house(needed);
            CHECK.due(call + " with room for " + needed, call.answer(web), 0);
            CHECK.due("count(2) behind " + call, web.count(2), needed);
        }
    }

    private static void oneForkMoreThanCapacity() {
        CHECK.about("a call that would leave more in the REGISTERS is refused (-8)");
        for (Call call : GROWING) {
            int needed = forksBehind(call);
            DecisionWeb web = house(needed - 1);
            CHECK.due(call + " with room for " + (needed - 1), call.answer(web), -8);
            CHECK.due("count(2) behind " + call, web.count(2), FORKS_OF_HOUSE);
        }
    }

    /** Wherever a growing house has more forks than ever, room for one fewer must stop it there and nowhere else. */
    private static void capacityOfGrowingHouses() {
        CHECK.about("There may be as many as CAPACITY: a call that would leave more in the REGISTERS is refused (-8)");
        for (int n = 1; n <= 12; n++) {
            int[] forks = new int[GROWTH];
            grow(n, House.ROOMY, forks);
            int most = 0;
            for (int i = 0; i < GROWTH; i++) {
                if (forks[i] > most) {
                    CHECK.due("how far it grows with room for " + (forks[i] - 1), grow(n, forks[i] - 1, null), i);
                    CHECK.due("whether it grows on with room for " + forks[i], grow(n, forks[i], null) > i, true);
                }
                most = Math.max(most, forks[i]);
            }
        }
    }

    /** Which call is the first that is refused; the forks behind each of them are noted if they are asked for. */
    private static int grow(int n, int capacity, int[] forks) {
        DecisionWeb web = House.empty(n, capacity);
        Random chance = new Random(n);
        for (int i = 0; i < GROWTH; i++) {
            int r = i < n ? i : n + i % (32 - n);
            int a = chance.nextInt(32);
            int b = chance.nextInt(32);
            int answer = i < n ? web.letter(r, i) : i % 2 == 0 ? web.fork(r, a, b, chance.nextInt(n)) : web.join(r, a, b, 6);
            if (answer != 0) {
                CHECK.due("refusal of call " + i, answer, -8);
                return i;
            }
            if (forks != null) {
                forks[i] = web.count(2);
            }
        }
        return GROWTH;
    }

    /** The last fork that so many letters let 32 registers have still needs its room. */
    private static void asManyForksAsThereCanBe() {
        CHECK.about("There may be as many as CAPACITY (and no web that is so great is let through uncounted)");
        // of 6, 7, 11 and 12 letters chance finds them too late or never
        for (int n : new int[] {1, 2, 3, 4, 5, 8, 9, 10}) {
            int most = mostForks(n);
            List<Call> calls = callsThatLeadTo(most, n);
            Call last = calls.remove(calls.size() - 1);
            DecisionWeb tooSmall = behind(calls, n, most - 1);
            int forks = tooSmall.count(2);
            CHECK.due(last + " of " + n + " letters with room for " + (most - 1), last.answer(tooSmall), -8);
            CHECK.due("count(2) behind it", tooSmall.count(2), forks);
            DecisionWeb great = behind(calls, n, most);
            CHECK.due(last + " of " + n + " letters with room for " + most, last.answer(great), 0);
            CHECK.due("count(2) behind it", great.count(2), most);
        }
    }

    /** At each level no more than there are functions below 32, nor than functions that differ by its letter. */
    private static int mostForks(int n) {
        int most = 0;
        for (int k = 0; k < n; k++) {
            int left = n - k;
            int below = 32 << k;
            most += left > 3 ? below : Math.min(below, (1 << (1 << left)) - (1 << (1 << left - 1)));
        }
        return most;
    }

    /** Calls by chance, of which those stay that make the forks more. */
    private static List<Call> callsThatLeadTo(int most, int n) {
        Random chance = new Random(0);
        List<Call> calls = new ArrayList<>();
        DecisionWeb web = behind(calls, n, House.ROOMY);
        int forks = web.count(2);
        for (int tried = 0; forks < most && tried < 100000; tried++) {
            Call call = callByChance(chance, n);
            call.answer(web);
            if (web.count(2) > forks) {
                forks = web.count(2);
                calls.add(call);
            } else {
                web = behind(calls, n, House.ROOMY);
            }
        }
        CHECK.due("the most forks of " + n + " letters", forks, most);
        return calls;
    }

    private static Call callByChance(Random chance, int n) {
        int r = chance.nextInt(32);
        int a = chance.nextInt(32);
        int b = chance.nextInt(32);
        int c = chance.nextInt(32);
        return switch (chance.nextInt(3)) {
            case 0 -> new Call("fork", "RRRR", r, a, b, c);
            case 1 -> new Call("join", "RRRT", r, a, b, c % 16);
            default -> new Call("trade", "RRVV", r, a, b % n, c % n);
        };
    }

    private static DecisionWeb behind(List<Call> calls, int n, int capacity) {
        DecisionWeb web = House.empty(n, capacity);
        for (int r = 0; r < 32; r++) {
            web.letter(r, r % n);
        }
        for (Call call : calls) {
            CHECK.due(call.toString(), call.answer(web), 0);
        }
        return web;
    }

    private static void dueUnchanged(Call call, int answer) {
        DecisionWeb web = fullHouse();
        CHECK.due(call.toString(), call.answer(web), answer);
        CHECK.due("the state behind " + call, House.state(web), House.state(fullHouse()));
    }

    private static void refusedForRangeChangesNothing() {
        CHECK.about("One that is refused changes nothing (-2)");
        for (Call call : Call.RANGED) {
            for (int i = 0; i < call.args().length; i++) {
                if (call.isRanged(i)) {
                    for (int value : outsideOf(call.kinds().charAt(i))) {
                        dueUnchanged(call.with(i, value), -2);
                    }
                }
            }
        }
    }

    private static void refusedForNothingAllowedChangesNothing() {
        CHECK.about("One that is refused changes nothing (-3)");
        dueUnchanged(new Call("near", "RRR", 9, 1, ALL_NO), -3);
        dueUnchanged(new Call("near", "RRR", 4, 4, ALL_NO), -3);
        dueUnchanged(new Call("near", "RRR", ALL_NO, 5, ALL_NO), -3);
    }

    private static void refusedForCapacityChangesNothing() {
        CHECK.about("One that is refused changes nothing (-8)");
        for (Call call : GROWING) {
            dueUnchanged(call, -8);
        }
        // r being one of those that are read
        dueUnchanged(new Call("fork", "RRRR", 0, 0, 1, 2), -8);
        dueUnchanged(new Call("put", "RRVR", 2, 4, 1, 2), -8);
        dueUnchanged(new Call("trade", "RRVV", 4, 4, 0, 3), -8);
        dueUnchanged(new Call("near", "RRR", 2, 2, 4), -8);
    }

    private static void refusedFreshChangesNothing() {
        CHECK.about("false, and nothing is done, if n is not 1 to 12, or capacity not 0 to 20000");
        int[][] wrong = {
            {0, 5}, {-1, 5}, {13, 5}, {14, 5}, {Integer.MIN_VALUE, 5}, {Integer.MAX_VALUE, 5}, {32, 5}, {64, 5},
            {4, -1}, {4, 20001}, {4, Integer.MIN_VALUE}, {4, Integer.MAX_VALUE}, {0, -1}, {13, 20001}
        };
        for (int[] w : wrong) {
            DecisionWeb web = fullHouse();
            CHECK.due("fresh(" + w[0] + ", " + w[1] + ")", web.fresh(w[0], w[1]), false);
            CHECK.due("the state behind it", House.state(web), House.state(fullHouse()));
        }
    }

    private static void doneGivesNought() {
        CHECK.about("Each call gives 0 where nothing else is said");
        Call[] calls = Call.named(
            "constant", "letter", "join", "fork", "fix", "put", "sum", "trade", "near", "copy", "swap", "point");
        for (Call call : calls) {
            CHECK.due(call.toString(), call.answer(house(House.ROOMY)), 0);
        }
    }
}
