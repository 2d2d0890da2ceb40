import java.util.Random;

/** Long runs of calls by chance, each answer held against that of the Model; the seeds are fixed. */
public final class ModelTest {
    private static final int[] WRONG = {-1, -2, 32, 33, 64, 1000, Integer.MAX_VALUE, Integer.MIN_VALUE, 12, 13, 4096};
    private static final int CHANGES = 12;

    private final Check check;
    private final Random chance;
    private final DecisionWeb web = new DecisionWeb();
    private final Model model = new Model();
    private final String run;
    private final int registers;
    private final boolean wrongToo;
    private int call = 0;

    private ModelTest(Check check, long seed, int registers, boolean wrongToo) {
        this.check = check;
        this.chance = new Random(seed);
        this.run = "seed " + seed;
        this.registers = registers;
        this.wrongToo = wrongToo;
    }

    public static void main(String[] args) {
        Check check = new Check("ModelTest");
        for (int seed = 0; seed < 400 && !check.isWrong(); seed++) {
            new ModelTest(check, seed, seed % 3 == 0 ? 32 : 5, true).runOf(1 + seed % 7, capacity(seed), 500);
        }
        for (int seed = 1000; seed < 1024 && !check.isWrong(); seed++) {
            new ModelTest(check, seed, 8, true).runOf(8 + seed % 3, seed % 2 == 0 ? 20000 : 150, 150);
        }
        for (int seed = 2000; seed < 2006 && !check.isWrong(); seed++) {
            new ModelTest(check, seed, 6, false).runOf(11 + seed % 2, seed % 4 < 2 ? 20000 : 1200, 100);
        }
        if (!check.isWrong()) {
            new ModelTest(check, 3000, 32, false).fullHouse();
        }
        check.end();
    }

    private static int capacity(int seed) {
        int[] capacities = {2000, 20, 7, 20000, 40, 3, 0, 80, 1, 12, 30};
        return capacities[seed % capacities.length];
    }

    private void runOf(int n, int capacity, int calls) {
        due("fresh(" + n + ", " + capacity + ")", web.fresh(n, capacity), model.fresh(n, capacity));
        for (int i = 0; i < calls && !check.isWrong(); i++) {
            if (chance.nextInt(5) < 2) {
                ask(chance.nextInt(16));
            } else {
                change(chance.nextInt(CHANGES));
            }
        }
        compareAll();
    }

    /** All REGISTERS full of FUNCTIONS of a dozen LETTERS, as many FORKS as there can about be. */
    private void fullHouse() {
        due("fresh(12, 20000)", web.fresh(12, 20000), model.fresh(12, 20000));
        for (int r = 0; r < 32; r++) {
            due("letter", web.letter(r, r % 12), model.letter(r, r % 12));
        }
        for (int i = 0; i < 400; i++) {
            // the letters stay till the end, so that what is made goes on differing by them
            int r = i < 330 ? 12 + i % 20 : i % 12;
            int a = chance.nextInt(32);
            int b = chance.nextInt(32);
            int c = chance.nextInt(32);
            due("fork", web.fork(r, a, b, c), model.fork(r, a, b, c));
            due("join", web.join(r, r, b ^ 1, 6), model.join(r, r, b ^ 1, 6));
        }
        due("count(2)", web.count(2), model.count(2));
        due("it is full", web.count(2) > 14000, true);
        due("swap(4)", web.swap(4), model.swap(4));
        due("sift(3)", web.sift(3), model.sift(3));
        due("near(0, 1, 2)", web.near(0, 1, 2), model.near(0, 1, 2));
        compareAll();
    }

    private int register() {
        return wrong() ? wrongNumber() : chance.nextInt(registers);
    }

    private int letterOrLevel() {
        return wrong() ? wrongNumber() : chance.nextInt(model.n);
    }

    private int number(int bound) {
        return wrong() ? wrongNumber() : chance.nextInt(bound);
    }

    private boolean wrong() {
        return wrongToo && chance.nextInt(40) == 0;
    }

    private int wrongNumber() {
        return WRONG[chance.nextInt(WRONG.length)];
    }

    private void due(String what, long got, long want) {
        call++;
        check.due(run + ", call " + call + ": " + what, got, want);
    }

    private void due(String what, boolean got, boolean want) {
        due(what, got ? 1 : 0, want ? 1 : 0);
    }

    private static String told(String name, Object... args) {
        StringBuilder text = new StringBuilder(name).append('(');
        for (int i = 0; i < args.length; i++) {
            text.append(i == 0 ? "" : ", ").append(args[i]);
        }
        return text.append(')').toString();
    }

    private void change(int which) {
        int r = register();
        int a = register();
        int b = register();
        int c = register();
        int u = letterOrLevel();
        int v = letterOrLevel();
        boolean one = chance.nextBoolean();
        switch (which) {
            case 0 -> due(told("constant", r, one), web.constant(r, one), model.constant(r, one));
            case 1 -> due(told("letter", r, v), web.letter(r, v), model.letter(r, v));
            case 2 -> {
                int table = number(16);
                due(told("join", r, a, b, table), web.join(r, a, b, table), model.join(r, a, b, table));
            }
            case 3 -> due(told("fork", r, a, b, c), web.fork(r, a, b, c), model.fork(r, a, b, c));
            case 4 -> due(told("fix", r, a, v, one), web.fix(r, a, v, one), model.fix(r, a, v, one));
            case 5 -> due(told("put", r, a, v, b), web.put(r, a, v, b), model.put(r, a, v, b));
            case 6 -> {
                // two masks, so that few letters are summed over
                int mask = number(1 << model.n) & number(1 << model.n);
                due(told("sum", r, a, mask, one), web.sum(r, a, mask, one), model.sum(r, a, mask, one));
            }
            case 7 -> due(told("trade", r, a, u, v), web.trade(r, a, u, v), model.trade(r, a, u, v));
            case 8 -> due(told("near", r, a, c), web.near(r, a, c), model.near(r, a, c));
            case 9 -> due(told("copy", r, a), web.copy(r, a), model.copy(r, a));
            case 10 -> due(told("swap", u), web.swap(u), model.swap(u));
            default -> due(told("sift", v), web.sift(v), model.sift(v));
        }
    }

    private void ask(int which) {
        int a = register();
        int b = register();
        int k = letterOrLevel();
        int x = number(1 << model.n);
        boolean high = chance.nextBoolean();
        switch (which) {
            case 0 -> {
                int cost = wrong() ? 1000001 : chance.nextInt(4) * chance.nextInt(250001);
                due(told("cost", k, cost), web.cost(k, cost), model.cost(k, cost));
            }
            case 1 -> due(told("same", a, b), web.same(a, b), model.same(a, b));
            case 2 -> due(told("tells", a, x), web.tells(a, x), model.tells(a, x));
            case 3 -> due(told("many", a), web.many(a), model.many(a));
            case 4 -> due(told("pick", a, x / 2), web.pick(a, x / 2), model.pick(a, x / 2));
            case 5 -> due(told("cheapest", a), web.cheapest(a), model.cheapest(a));
            case 6 -> due(told("dearest", a), web.dearest(a), model.dearest(a));
            case 7 -> due(told("letters", a), web.letters(a), model.letters(a));
            case 8 -> due(told("size", a), web.size(a), model.size(a));
            case 9 -> due(told("width", a, k), web.width(a, k), model.width(a, k));
            case 10 -> due(told("point", a), web.point(a), model.point(a));
            case 11, 12 -> {
                for (int i = 0; i < 3; i++) {
                    due(told("go", high), web.go(high), model.go(high));
                    due("at()", web.at(), model.at());
                }
            }
            case 13 -> due("at()", web.at(), model.at());
            case 14 -> {
                int what = chance.nextInt(4) - 1;
                due(told("level", k, what), web.level(k, what), model.level(k, what));
            }
            default -> {
                int what = chance.nextInt(6) - 1;
                due(told("count", what), web.count(what), model.count(what));
            }
        }
    }

    private void compareAll() {
        due("at()", web.at(), model.at());
        for (int what = 0; what < 4; what++) {
            due(told("count", what), web.count(what), model.count(what));
        }
        for (int k = 0; k < model.n; k++) {
            due(told("level", k, 0), web.level(k, 0), model.level(k, 0));
            due(told("level", k, 1), web.level(k, 1), model.level(k, 1));
        }
        for (int a = 0; a < 32; a++) {
            for (int x = 0; x < 1 << model.n; x++) {
                due(told("tells", a, x), web.tells(a, x), model.tells(a, x));
            }
            due(told("size", a), web.size(a), model.size(a));
            due(told("cheapest", a), web.cheapest(a), model.cheapest(a));
            due(told("dearest", a), web.dearest(a), model.dearest(a));
            due(told("letters", a), web.letters(a), model.letters(a));
        }
    }
}
