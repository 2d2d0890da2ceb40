import java.lang.reflect.InvocationTargetException;
import java.lang.reflect.Method;
import java.util.Arrays;

/**
 * A call by its name and arguments, so that a test can alter one of them. The kinds tell what each
 * argument is: R a register, V a letter, K a level, U a level that has one below it, T a table of
 * two, A an assignment, C a cost, B a boolean (1 or 0).
 */
record Call(String name, String kinds, int... args) {
    /** Every call that can answer -2 for a number out of its range, with arguments that are in it for 4 letters. */
    static final Call[] RANGED = {
        new Call("constant", "RB", 9, 1), new Call("letter", "RV", 9, 3), new Call("join", "RRRT", 9, 0, 1, 8),
        new Call("fork", "RRRR", 9, 0, 1, 2), new Call("fix", "RRVB", 9, 4, 2, 1), new Call("put", "RRVR", 9, 4, 2, 0),
        new Call("sum", "RRAB", 9, 4, 4, 0), new Call("trade", "RRVV", 9, 4, 0, 2), new Call("near", "RRR", 9, 2, 4),
        new Call("copy", "RR", 9, 0), new Call("swap", "U", 1), new Call("sift", "V", 0), new Call("cost", "VC", 0, 77),
        new Call("same", "RR", 0, 1), new Call("tells", "RA", 0, 0), new Call("many", "R", 0),
        new Call("pick", "R*", 0, 0), new Call("cheapest", "R", 0), new Call("dearest", "R", 0),
        new Call("letters", "R", 0), new Call("size", "R", 0), new Call("width", "RK", 0, 0), new Call("point", "R", 0)
    };

    static Call[] named(String... names) {
        return Arrays.stream(RANGED).filter(call -> Arrays.asList(names).contains(call.name)).toArray(Call[]::new);
    }

    /** How many numbers of a kind there are, from 0 on. */
    static int bound(char kind, int n) {
        return switch (kind) {
            case 'R' -> 32;
            case 'V', 'K' -> n;
            case 'U' -> n - 1;
            case 'T' -> 16;
            case 'A' -> 1 << n;
            case 'C' -> 1000001;
            default -> throw new IllegalStateException("no kind " + kind);
        };
    }

    boolean isRanged(int position) {
        return kinds.charAt(position) != 'B' && kinds.charAt(position) != '*';
    }

    Call with(int position, int value) {
        int[] altered = args.clone();
        altered[position] = value;
        return new Call(name, kinds, altered);
    }

    /** The same call with each number brought into the range that it has for n letters. */
    Call forLetters(int n) {
        Call call = this;
        for (int i = 0; i < args.length; i++) {
            if (isRanged(i)) {
                call = call.with(i, Math.min(args[i], bound(kinds.charAt(i), n) - 1));
            }
        }
        return call;
    }

    int answer(DecisionWeb web) {
        Object[] given = new Object[args.length];
        Class<?>[] types = new Class<?>[args.length];
        for (int i = 0; i < args.length; i++) {
            boolean yesNo = kinds.charAt(i) == 'B';
            types[i] = yesNo ? boolean.class : int.class;
            given[i] = yesNo ? (Object) (args[i] != 0) : (Object) args[i];
        }
        try {
            Method method = DecisionWeb.class.getMethod(name, types);
            return (Integer) method.invoke(web, given);
        } catch (NoSuchMethodException | IllegalAccessException | InvocationTargetException e) {
            throw new IllegalStateException(this + " cannot be called", e);
        }
    }

    @Override
    public String toString() {
        StringBuilder told = new StringBuilder(name).append('(');
        for (int i = 0; i < args.length; i++) {
            told.append(i == 0 ? "" : ", ").append(args[i]);
        }
        return told.append(')').toString();
    }
}
