import java.util.Random;

/**
 * Plays runs of at most 512 calls, the same in each session, on the class and on the reference, and compares each
 * answer or exception. An exception counts by its very class: one that the machine throws is no IndexOutOfBounds.
 */
public final class AgainstReferenceTest {
    private static final int RUNS = 1200;
    private static final int CALLS = 512;
    private static final String SIGNS = "abcdef01234567(),=&:";

    private final Random random;
    private final Polymorphium built = new Polymorphium();
    private final Reference due = new Reference();
    private final StringBuilder played = new StringBuilder();
    private int calls = 0;
    private int wrong = 0;
    // What the run knows of the state, so that most calls are ones that can be answered.
    private int d = 2;
    private int relations = 0;
    private int operations = 0;
    private int variables = 1;
    private int[] places = new int[8];
    private int[] arity = new int[6];

    private AgainstReferenceTest(int seed) {
        random = new Random(seed);
    }

    public static void main(String[] args) {
        int wrong = 0;
        for (int seed = 0; seed < RUNS && wrong < 5; seed++) {
            wrong += new AgainstReferenceTest(seed).play(seed);
        }
        System.out.println(wrong == 0 ? RUNS + " runs answer as the reference" : wrong + " runs are wrong");
        if (wrong != 0) {
            System.exit(1);
        }
    }

    private interface Call {
        Object answer();
    }

    private static Object outcome(Call call) {
        try {
            return call.answer();
        } catch (RuntimeException e) {
            return e.getClass();
        }
    }

    /** Makes one call on both; returns the answer of the class. */
    private Object both(String text, Call onBuilt, Call onDue) {
        if (calls >= CALLS || wrong > 0) {
            return null;
        }
        calls++;
        Object got = outcome(onBuilt);
        Object want = outcome(onDue);
        played.append(text).append(" -> ").append(got).append('\n');
        if (!got.equals(want)) {
            wrong++;
            played.append("  due was ").append(want).append('\n');
        }
        return got;
    }

    private int play(int seed) {
        if (random.nextInt(2) == 0) {
            begin(3);
        }
        while (calls < CALLS && wrong == 0) {
            step();
        }
        if (wrong > 0) {
            System.out.println("run " + seed + ":\n" + played);
        }
        return wrong;
    }

    private void step() {
        int what = random.nextInt(100);
        if (what < 1) {
            begin(random.nextInt(4) == 0 ? odd(5) : 2 + random.nextInt(2));
        } else if (what < 8) {
            tellRelation();
        } else if (what < 14) {
            tellOperation();
        } else if (what < 22) {
            tellTuple();
        } else if (what < 28) {
            tellAnswer();
        } else if (what < 34) {
            tellFormula();
        } else if (what < 37) {
            tellInstance();
        } else if (what < 47) {
            tellConstraint();
        } else if (what < 52) {
            type(random.nextLong() & 0x7f7f7f7f7f7f7f7fL, random.nextInt(12) - 1);
        } else {
            ask();
        }
    }

    /** Mostly a number below a bound, sometimes one that is out of range. */
    private int odd(int bound) {
        switch (random.nextInt(24)) {
            case 0:
                return -1;
            case 1:
                return bound;
            case 2:
                return random.nextInt();
            case 3:
                return random.nextBoolean() ? Integer.MIN_VALUE : Integer.MAX_VALUE;
            default:
                return random.nextInt(Math.max(1, bound));
        }
    }

    private void begin(int many) {
        Object got = both("values(" + many + ")", () -> built.values(many), () -> due.values(many));
        if (got instanceof Integer) {
            d = many;
            relations = 0;
            operations = 0;
            variables = 1;
        }
    }

    private int width(int relation) {
        return relation >= 0 && relation < relations ? places[relation] : 1;
    }

    private int codes(int width) {
        int codes = 1;
        for (int i = 0; i < width; i++) {
            codes *= d;
        }
        return codes;
    }

    private void tuple(int relation, int tuple, boolean is) {
        both("tuple(" + relation + ", " + tuple + ", " + is + ")",
                () -> built.tuple(relation, tuple, is), () -> due.tuple(relation, tuple, is));
    }

    private void tellRelation() {
        int many = 1 + odd(d == 2 ? 3 : 2);
        Object got = both("relation(" + many + ")", () -> built.relation(many), () -> due.relation(many));
        if (got instanceof Integer number && number < 8) {
            relations = number + 1;
            places[number] = many;
            int share = random.nextInt(5);
            boolean isReflexive = random.nextInt(3) == 0;
            for (int tuple = 0; tuple < codes(many); tuple++) {
                boolean isLike = tuple % (d == 2 && many == 3 ? 7 : d + 1) == 0 && many > 1;
                if (random.nextInt(5) < share || isReflexive && isLike) {
                    tuple(number, tuple, true);
                }
            }
            if (operations > 0 && random.nextBoolean()) {
                close(random.nextInt(operations), number);
            }
        }
    }

    /** Makes a relation one that an operation keeps, so that templates with an operation are met. */
    private void close(int operation, int relation) {
        Object got = both("closed(" + operation + ", " + relation + ")",
                () -> built.closed(operation, relation), () -> due.closed(operation, relation));
        if (got instanceof Integer set) {
            for (int tuple = 0; tuple < codes(places[relation]); tuple++) {
                if ((set >> tuple & 1) != 0) {
                    tuple(relation, tuple, true);
                }
            }
        }
    }

    private void tellTuple() {
        int relation = odd(relations);
        tuple(relation, odd(codes(width(relation))), random.nextBoolean());
    }

    private void tellOperation() {
        boolean isMade = random.nextBoolean();
        int what = isMade ? odd(5) : 1 + odd(3);
        Object got = isMade
                ? both("make(" + what + ")", () -> built.make(what), () -> due.make(what))
                : both("operation(" + what + ")", () -> built.operation(what), () -> due.operation(what));
        if (got instanceof Integer number && number < 6) {
            operations = number + 1;
            arity[number] = isMade ? new int[] {2, 2, 3, 3, 1}[what] : what;
            int changes = isMade ? 0 : random.nextInt(1 + codes(arity[number]));
            for (int i = 0; i < changes; i++) {
                answer(number, random.nextInt(codes(arity[number])), random.nextInt(d));
            }
        }
    }

    private void answer(int operation, int point, int value) {
        both("answers(" + operation + ", " + point + ", " + value + ")",
                () -> built.answers(operation, point, value), () -> due.answers(operation, point, value));
    }

    private void tellAnswer() {
        int operation = odd(operations);
        int many = operation >= 0 && operation < operations ? arity[operation] : 1;
        answer(operation, odd(codes(many)), odd(d));
    }

    private void type(long characters, int n) {
        both("type(" + characters + ", " + n + ")",
                () -> built.type(characters, n), () -> due.type(characters, n));
    }

    private void typeText(String text) {
        int at = 0;
        while (at < text.length()) {
            int n = Math.min(text.length() - at, 1 + random.nextInt(8));
            long characters = random.nextLong();
            for (int i = 0; i < n; i++) {
                characters = characters & ~(255L << 8 * i) | (long) text.charAt(at + i) << 8 * i;
            }
            type(characters, n);
            at += n;
        }
    }

    private String atom() {
        if (relations == 0 || random.nextInt(4) == 0) {
            return variable() + "=" + variable();
        }
        int relation = random.nextInt(relations);
        return relation + "(" + variable() + ("," + variable()).repeat(Math.max(0, places[relation] - 1)) + ")";
    }

    private String variable() {
        return "" + (char) ('a' + random.nextInt(6));
    }

    private String formulaText() {
        StringBuilder text = new StringBuilder();
        int head = 1 + random.nextInt(d == 2 ? 3 : 2);
        while (text.length() < head) {
            String variable = variable();
            if (text.indexOf(variable) < 0 || random.nextInt(30) == 0) {
                text.append(variable);
            }
        }
        text.append(':').append(atom());
        while (random.nextInt(4) != 0) {
            // The variables of an atom are drawn alike above, and unlike here.
            String atom = atom();
            StringBuilder mixed = new StringBuilder();
            for (char c : atom.toCharArray()) {
                mixed.append(c >= 'a' && c <= 'f' ? variable() : "" + c);
            }
            text.append('&').append(mixed);
        }
        return text.toString();
    }

    private void tellFormula() {
        if (random.nextInt(3) != 0) {
            both("wipe()", built::wipe, due::wipe);
        }
        StringBuilder text = new StringBuilder(formulaText());
        if (random.nextInt(3) == 0) {
            int at = random.nextInt(text.length());
            switch (random.nextInt(3)) {
                case 0 -> text.setCharAt(at, SIGNS.charAt(random.nextInt(SIGNS.length())));
                case 1 -> text.deleteCharAt(at);
                default -> text.setLength(at);
            }
        }
        typeText(text.toString());
        both("fault()", built::fault, due::fault);
        define(text.indexOf(":"));
    }

    private void define(int head) {
        if (random.nextInt(4) == 0 && relations > 6) {
            begin(d);
        }
        Object got = both("define()", built::define, due::define);
        if (got instanceof Integer number && number < 8) {
            relations = number + 1;
            Object told = outcome(() -> due.ofRelation(number, 0));
            places[number] = told instanceof Integer many ? many : head;
            ofRelation(number, 0);
            ofRelation(number, 1);
        }
    }

    private void ofRelation(int relation, int what) {
        both("ofRelation(" + relation + ", " + what + ")",
                () -> built.ofRelation(relation, what), () -> due.ofRelation(relation, what));
    }

    private void tellInstance() {
        int many = 1 + odd(6);
        Object got = both("instance(" + many + ")", () -> built.instance(many), () -> due.instance(many));
        if (got instanceof Integer) {
            variables = many;
        }
    }

    private void tellConstraint() {
        int relation = odd(relations);
        int width = width(relation);
        int first = odd(variables);
        int second = (width >= 2) == (random.nextInt(20) != 0) ? odd(variables) : -1;
        int third = (width >= 3) == (random.nextInt(20) != 0) ? odd(variables) : -1;
        both("constrain(" + relation + ", " + first + ", " + second + ", " + third + ")",
                () -> built.constrain(relation, first, second, third),
                () -> due.constrain(relation, first, second, third));
    }

    private void ask() {
        int one = odd(operations);
        int other = odd(relations);
        int u = odd(variables);
        int v = odd(variables);
        int kind = odd(5);
        int few = 1 + odd(2);
        switch (random.nextInt(20)) {
            case 0 -> ofRelation(other, odd(3));
            case 1 -> both("code(" + one + ")", () -> built.code(one), () -> due.code(one));
            case 2 -> both("keeps(" + one + ", " + other + ")",
                    () -> built.keeps(one, other), () -> due.keeps(one, other));
            case 3 -> both("breaks(" + one + ", " + other + ")",
                    () -> built.breaks(one, other), () -> due.breaks(one, other));
            case 4 -> both("has(" + one + ", " + kind + ")", () -> built.has(one, kind), () -> due.has(one, kind));
            case 5 -> both("closed(" + one + ", " + other + ")",
                    () -> built.closed(one, other), () -> due.closed(one, other));
            case 6 -> both("monoid()", built::monoid, due::monoid);
            case 7 -> both("binary()", built::binary, due::binary);
            case 8 -> both("kept(" + few + ")", () -> built.kept(few), () -> due.kept(few));
            case 9 -> both("first(" + kind + ")", () -> built.first(kind), () -> due.first(kind));
            case 10 -> both("ends()", built::ends, due::ends);
            case 11 -> both("core()", built::core, due::core);
            case 12 -> both("around(" + other + ")",
                    () -> built.around(other), () -> due.around(other));
            case 13 -> both("fault()", built::fault, due::fault);
            case 14 -> both("wipe()", built::wipe, due::wipe);
            case 15 -> both("solutions()", built::solutions, due::solutions);
            case 16 -> both("solutionsAnew()", built::solutionsAnew, due::solutionsAnew);
            case 17 -> both("solve()", built::solve, due::solve);
            case 18 -> both("left(" + u + ")", () -> built.left(u), () -> due.left(u));
            default -> both("pairs(" + u + ", " + v + ")", () -> built.pairs(u, v), () -> due.pairs(u, v));
        }
    }
}
