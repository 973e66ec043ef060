import java.lang.reflect.Constructor;
import java.lang.reflect.Field;
import java.lang.reflect.Method;
import java.lang.reflect.Modifier;
import java.util.TreeSet;

/** At least one test for each promise: ordinary inputs, the edges that the document names, and wrong inputs. */
public final class PromisesTest extends Checks {
    public static void main(String[] args) {
        face();
        aNewObject();
        values();
        relation();
        tuple();
        ofRelation();
        operation();
        make();
        answers();
        code();
        keepsAndBreaks();
        hasOfTwoPlaces();
        hasOfThreePlaces();
        hasWrongInputs();
        closed();
        monoid();
        binary();
        kept();
        firstConstantAndSemilattice();
        firstVoteAndSum();
        endsAndCore();
        around();
        aroundWrongInputs();
        type();
        wipe();
        fault();
        define();
        defineWrongInputs();
        instance();
        constrain();
        constrainWrongInputs();
        solutions();
        left();
        pairs();
        end();
    }

    // ---- helps

    /**
     * The call throws an exception of just this class. That it changes nothing is a matter of EdgesTest, which has a
     * new house for each such call: an object answers for 512 calls alone.
     */
    private static void fails(String what, Class<?> exception, Call call) {
        due(what, outcome(call), exception);
    }

    // ---- the face

    private static void face() {
        TreeSet<String> names = new TreeSet<>();
        for (Method method : Polymorphium.class.getDeclaredMethods()) {
            if (!Modifier.isPrivate(method.getModifiers())) {
                due(method + " is public", Modifier.isPublic(method.getModifiers()), true);
                names.add(method.getName() + "/" + method.getParameterCount());
            }
        }
        due("methods", names, "[answers/3, around/1, binary/0, breaks/2, closed/2, code/1, constrain/4, core/0,"
                + " define/0, ends/0, fault/0, first/1, has/2, instance/1, keeps/2, kept/1, left/1, make/1, monoid/0,"
                + " ofRelation/2, operation/1, pairs/2, relation/1, solutions/0, solutionsAnew/0, solve/0, tuple/3,"
                + " type/2, values/1, wipe/0]");
        for (Method method : Polymorphium.class.getDeclaredMethods()) {
            boolean isPrivateTwin = Modifier.isPrivate(method.getModifiers())
                    && names.stream().anyMatch(name -> name.startsWith(method.getName() + "/"));
            due(method + " has a name of its own", isPrivateTwin, false);
        }
        TreeSet<String> constants = new TreeSet<>();
        for (Field field : Polymorphium.class.getDeclaredFields()) {
            if (!Modifier.isPrivate(field.getModifiers())) {
                due(field + " is constant", field.getModifiers(), Modifier.PUBLIC | Modifier.STATIC | Modifier.FINAL);
                constants.add(field.getName());
            }
        }
        due("constants", constants, "[AFFINE, ASSOCIATES, CONSTANT, CYCLE, GREATEST, IDEMPOTENT, LEAST, MAJORITY,"
                + " MALTSEV, MIDDLE, NONE, SEMILATTICE, SUM, SYMMETRIC, VOTE]");
        due("final", Modifier.isFinal(Polymorphium.class.getModifiers()), true);
        Constructor<?>[] constructors = Polymorphium.class.getDeclaredConstructors();
        due("one constructor", constructors.length + " " + Modifier.isPublic(constructors[0].getModifiers()), "1 true");
        due("NONE", Polymorphium.NONE, -1);
    }

    // ---- Promises 1 to 5

    private static void aNewObject() {
        Polymorphium p = new Polymorphium();
        due("1: no relation", outcome(() -> p.ofRelation(0, 0)), INDEX);
        due("1: no operation", outcome(() -> p.code(0)), INDEX);
        due("1: no constraint and one variable", p.solutions(), 2);
        due("1: the second variable", outcome(() -> p.left(1)), INDEX);
        due("1: the first variable", p.left(0), 3);
        due("1: an empty tape", p.wipe(), 0);
        due("1: no constraints", p.instance(1), 0);
        due("1: 2 values", p.values(2), 2);
        relation(p, 1, 0);
        due("1: another object is not touched", state(new Polymorphium()), state(house(2)));
    }

    private static void values() {
        Polymorphium p = new Polymorphium();
        relation(p, 2, 0, 3);
        p.make(Polymorphium.LEAST);
        p.instance(4);
        p.constrain(0, 0, 1, Polymorphium.NONE);
        type(p, "a:");
        for (int many : new int[] {1, 4, 0, -1, MIN, MAX}) {
            fails("2: values(" + many + ")", ARGUMENT, () -> p.values(many));
        }
        due("2: from 2 to 3", p.values(3), 2);
        due("2: relations are gone", outcome(() -> p.ofRelation(0, 0)), INDEX);
        due("2: operations are gone", outcome(() -> p.code(0)), INDEX);
        due("2: one variable again", outcome(() -> p.left(1)), INDEX);
        due("2: it has three values", p.left(0), 7);
        due("2: no constraints", p.instance(1), 0);
        due("2: the tape stays", p.wipe(), 2);
        p.relation(1);
        due("2: from 3 to 3", p.values(3), 3);
        due("2: anew with the same", outcome(() -> p.ofRelation(0, 0)), INDEX);
        due("2: from 3 to 2", p.values(2), 3);
        due("2: with 2 again", p.values(2), 2);
    }

    private static void relation() {
        Polymorphium two = new Polymorphium();
        for (int places : new int[] {0, 4, -1, MIN, MAX}) {
            fails("3: relation(" + places + ") with 2", ARGUMENT, () -> two.relation(places));
        }
        for (int i = 0; i < 8; i++) {
            due("3: number " + i, two.relation(1 + i % 3), i);
            due("3: places of " + i, two.ofRelation(i, 0), 1 + i % 3);
            due("3: no tuples in " + i, two.ofRelation(i, 1), 0);
        }
        fails("3: a ninth", STATE, () -> two.relation(1));
        fails("3: a ninth of 4 places", ARGUMENT, () -> two.relation(4));
        Polymorphium three = house(3);
        fails("3: relation(3) with 3", ARGUMENT, () -> three.relation(3));
        due("3: relation(2) with 3", three.relation(2), 0);
        Polymorphium again = new Polymorphium();
        relation(again, 2, 1, 2);
        again.values(2);
        again.relation(2);
        due("3: a relation anew has no tuples", again.ofRelation(0, 1), 0);
    }

    private static void tuple() {
        Polymorphium p = new Polymorphium();
        p.relation(1);
        p.relation(3);
        due("4: it was not there", p.tuple(1, 7, true), false);
        due("4: it was", p.tuple(1, 7, true), true);
        due("4: it stands", p.ofRelation(1, 1), 128);
        due("4: another", p.tuple(1, 0, true), false);
        due("4: both", p.ofRelation(1, 1), 129);
        due("4: away", p.tuple(1, 7, false), true);
        due("4: away once more", p.tuple(1, 7, false), false);
        due("4: one is left", p.ofRelation(1, 1), 1);
        due("4: the other relation", p.ofRelation(0, 1), 0);
        for (int tuple : new int[] {2, -1, 32, 33, MIN, MAX}) {
            fails("4: tuple " + tuple + " of one place", INDEX, () -> p.tuple(0, tuple, true));
        }
        for (int number : new int[] {2, -1, 8, MIN, MAX}) {
            fails("4: relation " + number, INDEX, () -> p.tuple(number, 0, true));
        }
        fails("4: tuple 8 of three places", INDEX, () -> p.tuple(1, 8, true));
        Polymorphium three = house(3);
        three.relation(2);
        due("4: tuple 8 of two places with 3", three.tuple(0, 8, true), false);
        fails("4: tuple 9 of two places with 3", INDEX, () -> three.tuple(0, 9, true));
    }

    private static void ofRelation() {
        Polymorphium p = new Polymorphium();
        relation(p, 2, 0, 2, 3);
        due("5: places", p.ofRelation(0, 0), 2);
        due("5: set", p.ofRelation(0, 1), 1 + 4 + 8);
        due("5: how many", p.ofRelation(0, 2), 3);
        for (int what : new int[] {-1, 3, MIN, MAX}) {
            fails("5: what " + what, ARGUMENT, () -> p.ofRelation(0, what));
            fails("5: no relation, what " + what, INDEX, () -> p.ofRelation(1, what));
        }
        fails("5: relation -1", INDEX, () -> p.ofRelation(-1, 0));
        fails("5: relation 8", INDEX, () -> p.ofRelation(8, 0));
        Polymorphium three = house(3);
        relation(three, 2, 0, 1, 2, 3, 4, 5, 6, 7, 8);
        due("5: all tuples with 3", three.ofRelation(0, 1), 511);
        due("5: so many", three.ofRelation(0, 2), 9);
    }

    // ---- Promises 6 to 9

    private static void operation() {
        Polymorphium p = new Polymorphium();
        for (int places : new int[] {0, 4, -1, MIN, MAX}) {
            fails("6: operation(" + places + ")", ARGUMENT, () -> p.operation(places));
        }
        due("6: of one place", p.operation(1) + " " + p.code(0), "0 2");
        due("6: of two places", p.operation(2) + " " + p.code(1), "1 10");
        due("6: of three places", p.operation(3) + " " + p.code(2), "2 170");
        p.operation(1);
        p.operation(1);
        due("6: the sixth", p.operation(1), 5);
        fails("6: a seventh", STATE, () -> p.operation(1));
        fails("6: a seventh of 4 places", ARGUMENT, () -> p.operation(4));
        p.values(3);
        due("6: of one place with 3", p.operation(1) + " " + p.code(0), "0 " + (3 + 2 * 9));
        due("6: of three places with 3", p.operation(3) + " " + p.code(1), "1 6159136430181");
        p.answers(1, 26, 0);
        p.values(3);
        p.operation(1);
        p.operation(3);
        due("6: anew as at first", p.code(1), 6159136430181L);
    }

    private static void make() {
        Polymorphium p = new Polymorphium();
        for (int what : new int[] {-1, 5, MIN, MAX}) {
            fails("7: make(" + what + ")", ARGUMENT, () -> p.make(what));
        }
        due("7: LEAST", p.make(Polymorphium.LEAST) + " " + p.code(0), "0 8");
        due("7: GREATEST", p.make(Polymorphium.GREATEST) + " " + p.code(1), "1 14");
        due("7: MIDDLE", p.make(Polymorphium.MIDDLE) + " " + p.code(2), "2 232");
        due("7: AFFINE", p.make(Polymorphium.AFFINE) + " " + p.code(3), "3 150");
        due("7: CYCLE", p.make(Polymorphium.CYCLE) + " " + p.code(4), "4 1");
        p.make(Polymorphium.LEAST);
        fails("7: a seventh", STATE, () -> p.make(Polymorphium.LEAST));
        fails("7: a seventh of no kind", ARGUMENT, () -> p.make(5));
        String[] due = {"000011012", "012112222", "000011012011111112012112222", "012201120120012201201120012", "120"};
        for (int what = 0; what < 5; what++) {
            Polymorphium three = house(3);
            three.make(what);
            long code = 0;
            for (int point = due[what].length() - 1; point >= 0; point--) {
                code = code * 3 + due[what].charAt(point) - '0';
            }
            due("7: make(" + what + ") with 3", three.code(0), code);
            int last = due[what].length();
            due("7: no more points of " + what, outcome(() -> three.answers(0, last, 0)), INDEX);
        }
    }

    private static void answers() {
        Polymorphium p = new Polymorphium();
        p.operation(2);
        due("8: it answered the first place", p.answers(0, 1, 0), 1);
        due("8: now as told", p.answers(0, 1, 1), 0);
        due("8: and so again", p.answers(0, 1, 1), 1);
        due("8: another point", p.answers(0, 2, 1), 0);
        due("8: the code follows", p.code(0), 2 + 4 + 8);
        for (int point : new int[] {4, -1, MIN, MAX}) {
            fails("8: point " + point, INDEX, () -> p.answers(0, point, 0));
            fails("8: point " + point + " and a wrong value", INDEX, () -> p.answers(0, point, 2));
        }
        for (int value : new int[] {2, -1, MIN, MAX}) {
            fails("8: value " + value, ARGUMENT, () -> p.answers(0, 0, value));
            fails("8: no operation, value " + value, INDEX, () -> p.answers(1, 0, value));
        }
        fails("8: operation -1", INDEX, () -> p.answers(-1, 0, 0));
        fails("8: operation 6", INDEX, () -> p.answers(6, 0, 0));
        Polymorphium three = house(3);
        three.operation(3);
        due("8: the last point with 3", three.answers(0, 26, 0), 2);
        fails("8: point 27", INDEX, () -> three.answers(0, 27, 0));
        fails("8: value 3", ARGUMENT, () -> three.answers(0, 0, 3));
    }

    private static void code() {
        Polymorphium p = house(3);
        operation(p, 3, "222222222222222222222222222");
        due("9: the greatest code", p.code(0), 7625597484986L);
        operation(p, 1, "021");
        due("9: 0, 2, 1", p.code(1), 2 * 3 + 9);
        operation(p, 2, "000000001");
        due("9: the last point weighs most", p.code(2), 6561);
        fails("9: operation 3", INDEX, () -> p.code(3));
        fails("9: operation -1", INDEX, () -> p.code(-1));
        fails("9: operation 6", INDEX, () -> p.code(6));
    }

    // ---- Promises 10 to 13

    private static void keepsAndBreaks() {
        Polymorphium p = new Polymorphium();
        relation(p, 2, 0, 2, 3);
        relation(p, 2, 1, 2);
        relation(p, 3);
        relation(p, 3, 1, 2, 4);
        p.make(Polymorphium.LEAST);
        p.make(Polymorphium.CYCLE);
        p.make(Polymorphium.AFFINE);
        due("10: LEAST keeps an order", p.keeps(0, 0), true);
        due("11: LEAST keeps an order", p.breaks(0, 0), -1);
        due("10: LEAST and unlike values", p.keeps(0, 1), false);
        due("11: LEAST and unlike values", p.breaks(0, 1), 0);
        due("10: CYCLE and unlike values", p.keeps(1, 1), true);
        due("10: CYCLE and an order", p.keeps(1, 0), false);
        due("11: CYCLE and an order", p.breaks(1, 0), 1);
        due("10: nothing to apply to", p.keeps(2, 2), true);
        due("11: nothing to apply to", p.breaks(2, 2), -1);
        due("10: AFFINE and one of three", p.keeps(2, 3), false);
        due("11: the lowest of more", p.breaks(2, 3), 7);
        due("11: CYCLE and one of three", p.breaks(1, 3), 3);
        for (int number : new int[] {4, -1, 8, MIN, MAX}) {
            fails("10: relation " + number, INDEX, () -> p.keeps(0, number));
            fails("11: relation " + number, INDEX, () -> p.breaks(0, number));
            int operation = number == 4 ? 3 : number;
            fails("10: operation " + operation, INDEX, () -> p.keeps(operation, 0));
            fails("11: operation " + operation, INDEX, () -> p.breaks(operation, 0));
        }
        Polymorphium three = house(3);
        relation(three, 2, 8);
        operation(three, 3, "000000000000000000000000001");
        due("10: the same tuple thrice", three.keeps(0, 0), false);
        due("11: the same tuple thrice", three.breaks(0, 0), 4);
        relation(three, 1, 0, 2);
        operation(three, 2, "001000000");
        due("10: the order of tuples counts", three.keeps(1, 1), false);
        due("11: 2 on the first place, 0 on the second", three.breaks(1, 1), 1);
    }

    private static void hasOfTwoPlaces() {
        Polymorphium p = house(3);
        int least = p.make(Polymorphium.LEAST);
        int cycle = p.make(Polymorphium.CYCLE);
        int first = p.operation(2);
        int minus = operation(p, 2, "012201120");
        int unary = p.operation(1);
        due("12: LEAST is IDEMPOTENT", p.has(least, Polymorphium.IDEMPOTENT), true);
        due("12: LEAST is SYMMETRIC", p.has(least, Polymorphium.SYMMETRIC), true);
        due("12: LEAST ASSOCIATES", p.has(least, Polymorphium.ASSOCIATES), true);
        due("12: LEAST is no MAJORITY", p.has(least, Polymorphium.MAJORITY), false);
        due("12: LEAST is no MALTSEV", p.has(least, Polymorphium.MALTSEV), false);
        due("12: CYCLE is not IDEMPOTENT", p.has(cycle, Polymorphium.IDEMPOTENT), false);
        due("12: CYCLE is SYMMETRIC, with one value", p.has(cycle, Polymorphium.SYMMETRIC), true);
        due("12: CYCLE does not ASSOCIATE", p.has(cycle, Polymorphium.ASSOCIATES), false);
        due("12: the first of two is not SYMMETRIC", p.has(first, Polymorphium.SYMMETRIC), false);
        due("12: the first of two ASSOCIATES", p.has(first, Polymorphium.ASSOCIATES), true);
        due("12: x - y does not ASSOCIATE", p.has(minus, Polymorphium.ASSOCIATES), false);
        due("12: x - y is not IDEMPOTENT", p.has(minus, Polymorphium.IDEMPOTENT), false);
        int zero = operation(p, 2, "001000000");
        due("12: not for 2, 0, 0", p.has(zero, Polymorphium.ASSOCIATES), false);
        p.answers(zero, 2, 0);
        p.answers(zero, 8, 2);
        due("12: 2 with 2, and else 0", p.has(zero, Polymorphium.ASSOCIATES), true);
        due("12: all values count", p.has(zero, Polymorphium.IDEMPOTENT), false);
        due("12: one place does not ASSOCIATE", p.has(unary, Polymorphium.ASSOCIATES), false);
        due("12: the value itself is IDEMPOTENT", p.has(unary, Polymorphium.IDEMPOTENT), true);
    }

    private static void hasOfThreePlaces() {
        Polymorphium p = house(3);
        int middle = p.make(Polymorphium.MIDDLE);
        int affine = p.make(Polymorphium.AFFINE);
        int first = p.operation(3);
        due("12: MIDDLE is a MAJORITY", p.has(middle, Polymorphium.MAJORITY), true);
        due("12: MIDDLE is no MALTSEV", p.has(middle, Polymorphium.MALTSEV), false);
        due("12: MIDDLE is SYMMETRIC", p.has(middle, Polymorphium.SYMMETRIC), true);
        due("12: MIDDLE does not ASSOCIATE", p.has(middle, Polymorphium.ASSOCIATES), false);
        due("12: AFFINE is a MALTSEV", p.has(affine, Polymorphium.MALTSEV), true);
        due("12: AFFINE is no MAJORITY", p.has(affine, Polymorphium.MAJORITY), false);
        due("12: AFFINE with 3 is not SYMMETRIC", p.has(affine, Polymorphium.SYMMETRIC), false);
        due("12: the first of three is no MAJORITY", p.has(first, Polymorphium.MAJORITY), false);
        due("12: the first of three is no MALTSEV", p.has(first, Polymorphium.MALTSEV), false);
        due("12: the first of three is IDEMPOTENT", p.has(first, Polymorphium.IDEMPOTENT), true);
        // Symmetric in the first two places alone, and in the last two alone.
        Polymorphium two = new Polymorphium();
        int firstTwo = operation(two, 3, "00010000");
        int lastTwo = operation(two, 3, "01000001");
        int parity = operation(two, 3, "01101001");
        due("12: SYMMETRIC in the first two", two.has(firstTwo, Polymorphium.SYMMETRIC), false);
        due("12: SYMMETRIC in the last two", two.has(lastTwo, Polymorphium.SYMMETRIC), false);
        due("12: SYMMETRIC in all three", two.has(parity, Polymorphium.SYMMETRIC), true);
        int noVote = two.make(Polymorphium.MIDDLE);
        two.answers(noVote, 5, 0);
        due("12: no MAJORITY for 1, 0, 1", two.has(noVote, Polymorphium.MAJORITY), false);
        due("12: a MALTSEV with 2 values", two.has(parity, Polymorphium.MALTSEV), true);
        two.answers(parity, 4, 0);
        due("12: no MALTSEV for 0, 0, 1", two.has(parity, Polymorphium.MALTSEV), false);
        // Changed at one point, and all points of a kind are looked at.
        for (int point = 0; point < 27; point++) {
            int x = point % 3;
            int y = point / 3 % 3;
            int z = point / 9;
            int other = (p.answers(middle, point, 0) + 1) % 3;
            int before = (other + 2) % 3;
            p.answers(middle, point, other);
            due("12: MAJORITY, changed at " + point, p.has(middle, Polymorphium.MAJORITY), x != y && y != z && x != z);
            due("12: IDEMPOTENT, changed at " + point, p.has(middle, Polymorphium.IDEMPOTENT), x != y || y != z);
            p.answers(middle, point, before);
            before = p.answers(affine, point, 0);
            p.answers(affine, point, (before + 1) % 3);
            due("12: MALTSEV, changed at " + point, p.has(affine, Polymorphium.MALTSEV), x != y && y != z);
            p.answers(affine, point, before);
        }
    }

    private static void hasWrongInputs() {
        Polymorphium p = new Polymorphium();
        p.make(Polymorphium.LEAST);
        for (int identity : new int[] {-1, 5, MIN, MAX}) {
            fails("12: identity " + identity, ARGUMENT, () -> p.has(0, identity));
            fails("12: no operation, identity " + identity, INDEX, () -> p.has(1, identity));
        }
        fails("12: operation -1", INDEX, () -> p.has(-1, 0));
        fails("12: operation 6", INDEX, () -> p.has(6, 0));
    }

    private static void closed() {
        Polymorphium p = new Polymorphium();
        relation(p, 3, 1, 2, 4);
        relation(p, 2);
        p.make(Polymorphium.AFFINE);
        p.make(Polymorphium.CYCLE);
        p.make(Polymorphium.LEAST);
        due("13: AFFINE", p.closed(0, 0), 2 + 4 + 16 + 128);
        due("13: CYCLE", p.closed(1, 0), 2 + 4 + 16 + 64 + 32 + 8);
        due("13: LEAST", p.closed(2, 0), 1 + 2 + 4 + 16);
        due("13: nothing stays nothing", p.closed(0, 1), 0);
        due("13: the relation stays as it is", p.ofRelation(0, 1), 2 + 4 + 16);
        fails("13: operation 3", INDEX, () -> p.closed(3, 0));
        fails("13: relation 2", INDEX, () -> p.closed(0, 2));
        fails("13: operation -1", INDEX, () -> p.closed(-1, 0));
        fails("13: relation -1", INDEX, () -> p.closed(0, -1));
        Polymorphium three = house(3);
        relation(three, 1, 0);
        three.make(Polymorphium.CYCLE);
        due("13: again and again", three.closed(0, 0), 7);
        relation(three, 2, 0, 8);
        due("13: on both places", three.closed(0, 1), 1 + 16 + 256);
    }

    // ---- Promises 14 to 16

    private static void monoid() {
        Polymorphium p = house(3);
        due("14: the value itself alone", p.monoid(), 1);
        p.make(Polymorphium.CYCLE);
        due("14: CYCLE", p.monoid(), 3);
        p.make(Polymorphium.LEAST);
        operation(p, 2, "111111111");
        due("14: more places do not count", p.monoid(), 3);
        operation(p, 1, "102");
        due("14: all that change places", p.monoid(), 6);
        operation(p, 1, "002");
        due("14: all of one place", p.monoid(), 27);
        Polymorphium two = new Polymorphium();
        operation(two, 1, "00");
        due("14: a constant", two.monoid(), 2);
        two.make(Polymorphium.CYCLE);
        due("14: all with 2 values", two.monoid(), 4);
    }

    private static void binary() {
        Polymorphium p = new Polymorphium();
        int places = 1 << 10 | 1 << 12;
        due("15: the two places", p.binary(), places);
        p.make(Polymorphium.LEAST);
        due("15: LEAST", p.binary(), places | 1 << 8);
        p.make(Polymorphium.GREATEST);
        due("15: LEAST and GREATEST", p.binary(), places | 1 << 8 | 1 << 14);
        p.make(Polymorphium.CYCLE);
        due("15: all", p.binary(), 65535);
        Polymorphium middle = new Polymorphium();
        middle.make(Polymorphium.MIDDLE);
        due("15: MIDDLE brings no more", middle.binary(), places);
        middle.make(Polymorphium.AFFINE);
        due("15: nor does AFFINE", middle.binary(), places);
        middle.make(Polymorphium.CYCLE);
        due("15: CYCLE turns both", middle.binary(), places | 1 << 5 | 1 << 3);
        operation(middle, 1, "00");
        due("15: AFFINE with 0 adds", middle.binary() == 65535, true);
        Polymorphium affine = new Polymorphium();
        affine.make(Polymorphium.AFFINE);
        operation(affine, 1, "00");
        due("15: x + y", affine.binary(), places | 1 | 1 << 6);
        Polymorphium three = house(3);
        fails("15: with 3 values", STATE, three::binary);
    }

    private static void kept() {
        Polymorphium p = new Polymorphium();
        due("16: all of one place", p.kept(1), 4);
        due("16: all of two places", p.kept(2), 16);
        p.make(Polymorphium.LEAST);
        due("16: LEAST and one place", p.kept(1), 4);
        due("16: LEAST and two places", p.kept(2), 14);
        p.make(Polymorphium.CYCLE);
        due("16: LEAST, CYCLE and one place", p.kept(1), 2);
        due("16: LEAST, CYCLE and two places", p.kept(2), 3);
        for (int places : new int[] {0, 3, -1, MIN, MAX}) {
            fails("16: kept(" + places + ")", ARGUMENT, () -> p.kept(places));
        }
        Polymorphium three = house(3);
        due("16: all of one place with 3", three.kept(1), 8);
        due("16: all of two places with 3", three.kept(2), 512);
        three.make(Polymorphium.CYCLE);
        due("16: CYCLE, with 3", three.kept(1), 2);
        due("16: CYCLE and two places, with 3", three.kept(2), 8);
        three.make(Polymorphium.AFFINE);
        due("16: CYCLE and AFFINE", three.kept(2), 1 + 3 + 1);
        Polymorphium affine = house(3);
        affine.make(Polymorphium.AFFINE);
        due("16: AFFINE: nothing, points, lines, all", affine.kept(2), 1 + 9 + 12 + 1);
    }

    // ---- Promises 17 to 20

    private static void firstConstantAndSemilattice() {
        Polymorphium p = new Polymorphium();
        due("17: without relations 0", p.first(Polymorphium.CONSTANT), 0);
        due("17: LEAST without relations", p.first(Polymorphium.SEMILATTICE), 8);
        relation(p, 2, 1, 2, 3);
        due("17: 1 alone", p.first(Polymorphium.CONSTANT), 3);
        due("17: GREATEST alone", p.first(Polymorphium.SEMILATTICE), 14);
        relation(p, 2, 0, 1, 2);
        due("17: no constant", p.first(Polymorphium.CONSTANT), -1);
        due("17: no semilattice", p.first(Polymorphium.SEMILATTICE), -1);
        relation(p, 1);
        due("17: nothing is kept by all, but changes nothing", p.first(Polymorphium.CONSTANT), -1);
        for (int kind : new int[] {-1, 4, MIN, MAX}) {
            fails("17: first(" + kind + ")", ARGUMENT, () -> p.first(kind));
        }
        Polymorphium three = house(3);
        due("17: the lowest semilattice with 3", three.first(Polymorphium.SEMILATTICE), 13203);
        relation(three, 1, 1);
        due("17: 1 with 3", three.first(Polymorphium.CONSTANT), 13);
        three.tuple(0, 2, true);
        due("17: the lower of two", three.first(Polymorphium.CONSTANT), 13);
        three.tuple(0, 1, false);
        due("17: 2 with 3", three.first(Polymorphium.CONSTANT), 26);
        due("17: idempotent all the same", three.first(Polymorphium.SEMILATTICE), 13203);
        relation(three, 2, 5, 7, 8);
        due("17: 2 goes above 1", three.first(Polymorphium.SEMILATTICE), 18063);
    }

    private static void firstVoteAndSum() {
        Polymorphium p = new Polymorphium();
        due("17: a vote", p.first(Polymorphium.VOTE), 232);
        due("17: a sum", p.first(Polymorphium.SUM), 150);
        int oneOfThree = relation(p, 3, 1, 2, 4);
        due("17: no vote", p.first(Polymorphium.VOTE), -1);
        due("17: no sum", p.first(Polymorphium.SUM), -1);
        p.tuple(oneOfThree, 7, true);
        due("17: an uneven sum has no vote", p.first(Polymorphium.VOTE), -1);
        due("17: but it has a sum", p.first(Polymorphium.SUM), 150);
        Polymorphium three = house(3);
        due("17: the lowest vote with 3", three.first(Polymorphium.VOTE), 7570117242603L);
        due("17: the sum with 3", three.first(Polymorphium.SUM), 6008673505341L);
        relation(three, 2, 0, 3, 4, 6, 7, 8);
        due("17: a vote that keeps the order", three.first(Polymorphium.VOTE), 7581754385757L);
        due("17: no sum keeps the order", three.first(Polymorphium.SUM), -1);
        relation(three, 2, 1, 2, 3, 5, 6, 7);
        due("17: no vote with unlike values", three.first(Polymorphium.VOTE), -1);
    }

    private static void endsAndCore() {
        Polymorphium p = new Polymorphium();
        due("18: all with 2", p.ends(), 4);
        due("19: one value is enough", p.core(), 1);
        relation(p, 2, 1, 2);
        due("18: two with unlike values", p.ends(), 2);
        due("19: both values", p.core(), 2);
        relation(p, 1, 0);
        due("18: the value itself", p.ends(), 1);
        Polymorphium three = house(3);
        due("18: all with 3", three.ends(), 27);
        due("19: one value with 3", three.core(), 1);
        // A line of three, 0 - 1 - 2, folds on one side.
        relation(three, 2, 1, 3, 5, 7);
        due("18: foldings of a line", three.ends(), 6);
        due("19: a line of two", three.core(), 2);
        relation(three, 2, 1, 2, 3, 5, 6, 7);
        due("18: turnings of a line", three.ends(), 2);
        due("19: all three", three.core(), 3);
        Polymorphium empty = house(3);
        empty.relation(2);
        due("18: without tuples all", empty.ends(), 27);
    }

    private static void around() {
        Polymorphium p = new Polymorphium();
        int one = relation(p, 3, 3, 5, 6);
        due("20: with no other relation anything but what is bound", p.around(one), 255);
        p.tuple(one, 3, false);
        // The two tuples have 1 on the third place, and unlike values before it.
        due("20: two tuples", p.around(one), 255);
        int zero = relation(p, 1, 0);
        int full = relation(p, 1, 1);
        due("20: idempotent ones", p.around(one), 16 + 32 + 64 + 128);
        due("20: one tuple, and others that bind all", p.around(zero), 1);
        due("20: the same with 1", p.around(full), 2);
        Polymorphium alone = new Polymorphium();
        relation(alone, 1, 0);
        due("20: a relation does not bind itself", alone.around(0), 3);
        relation(alone, 1, 0);
        due("20: but a twin of it does", alone.around(0), 1);
        relation(p, 2, 1, 2);
        due("20: unlike values", p.around(one), 32 + 64);
        due("20: the constants are then bound", p.around(zero), 1);
        p.tuple(one, 5, false);
        p.tuple(one, 6, false);
        due("20: no tuples", p.around(one), 0);
        Polymorphium three = house(3);
        int two = relation(three, 2, 1, 3);
        due("20: two tuples with 3", three.around(two), 511);
        relation(three, 2, 1, 2, 3, 5, 6, 7);
        due("20: unlike values with 3", three.around(two), 2 + 4 + 8 + 32 + 64 + 128);
        relation(three, 1, 0, 1);
        due("20: of two alone", three.around(two), 2 + 8);
    }

    private static void aroundWrongInputs() {
        Polymorphium p = new Polymorphium();
        relation(p, 3, 0, 1, 2, 3);
        fails("20: four tuples", STATE, () -> p.around(0));
        fails("20: relation 1", INDEX, () -> p.around(1));
        fails("20: relation -1", INDEX, () -> p.around(-1));
        fails("20: relation 8", INDEX, () -> p.around(8));
        p.tuple(0, 3, false);
        due("20: three are not too many", p.around(0), 15 | 15 << 4);
        relation(p, 1, 0);
        due("20: three that have 0 on the last place", p.around(0), 15);
        Polymorphium three = house(3);
        relation(three, 1, 0, 1, 2);
        fails("20: three tuples with 3", STATE, () -> three.around(0));
        three.tuple(0, 1, false);
        due("20: two with 3", three.around(0), 7);
    }

    // ---- Promises 21 to 24

    private static void type() {
        Polymorphium p = new Polymorphium();
        long letters = 'a' | 'b' << 8 | ':' << 16;
        due("21: three", p.type(letters, 3), 3);
        due("21: the first is lowest", p.fault(), 3);
        due("21: what lies behind n does not count", p.type('a' | 255L << 8 | 1L << 63, 1), 4);
        due("21: eight", p.type(0x3030303030303030L, 8), 12);
        due("21: it goes on", p.fault(), 4);
        for (int n : new int[] {0, 9, -1, MIN, MAX}) {
            fails("21: n " + n, ARGUMENT, () -> p.type(0x6161616161616161L, n));
        }
        for (char c = 0; c < 256; c++) {
            char sign = c;
            boolean can = "abcdef01234567(),=&:".indexOf(c) >= 0;
            Polymorphium one = new Polymorphium();
            due("21: character " + (int) c, outcome(() -> one.type(sign, 1)), can ? "1" : ARGUMENT);
        }
        fails("21: the last of eight", ARGUMENT, () -> p.type(0x6761616161616161L, 8));
        fails("21: a sign above 127", ARGUMENT, () -> p.type(0xe161616161616161L, 8));
        Polymorphium full = new Polymorphium();
        for (int i = 0; i < 7; i++) {
            full.type(0x6161616161616161L, 8);
        }
        fails("21: 61 characters", STATE, () -> full.type(0x6161616161L, 5));
        fails("21: 61 with a wrong one", ARGUMENT, () -> full.type(0x6761616161L, 5));
        due("21: 60 characters", full.type(0x61616161L, 4), 60);
        fails("21: one more", STATE, () -> full.type('a', 1));
    }

    private static void wipe() {
        Polymorphium p = new Polymorphium();
        due("22: nothing", p.wipe(), 0);
        type(p, "a:a=a");
        due("22: five", p.wipe(), 5);
        due("22: then none", p.wipe(), 0);
        due("22: too short", p.fault(), 0);
        type(p, "b");
        due("22: from the beginning", p.wipe(), 1);
    }

    private static void fault() {
        String[][] faults = {
            {"", "0"}, {"a", "1"}, {"abc", "3"}, {"abc:", "4"}, {"abcd", "3"}, {"aa", "1"}, {"aba", "2"}, {":", "0"},
            {"0", "0"}, {"(", "0"}, {"a,b", "1"}, {"a:a", "3"}, {"a:a=", "4"}, {"a:a=b", "-1"}, {"a:f=f", "-1"},
            {"a:a=b&", "6"}, {"a:a=b,", "5"}, {"a:a=bc", "5"}, {"a:a=0", "4"}, {"a::", "2"}, {"a:=", "2"},
            {"a:0", "3"}, {"a:0(", "4"}, {"a:0(a", "5"}, {"a:0(a)", "-1"}, {"a:0(a,", "5"}, {"a:0()", "4"},
            {"a:0a", "3"}, {"a:00", "3"}, {"a:1(a,b)", "-1"}, {"a:1(a)", "5"}, {"a:1(a,b,", "7"}, {"a:1(a,b", "7"},
            {"a:1(a,,", "6"}, {"a:1(a,b)&0(c)", "-1"}, {"a:1(a,b)0", "8"}, {"a:2", "2"}, {"a:7(", "2"},
            {"a:a=a&&", "6"}, {"a:a=a&2", "6"}, {"a:0(a)=b", "6"}, {"a:a(", "3"}, {"a:&", "2"}, {"a:a=b:", "5"},
        };
        for (String[] each : faults) {
            Polymorphium p = houseWithTape(2, each[0]);
            p.relation(1);
            p.relation(2);
            due("23: " + each[0], p.fault(), each[1]);
            due("23: the tape stays", p.wipe(), each[0].length());
        }
        due("23: three values, three places", houseWithTape(3, "abc").fault(), 2);
        due("23: three values, two places", houseWithTape(3, "ab:a=b").fault(), -1);
        Polymorphium p = houseWithTape(2, "a:0(a,a)");
        due("23: no such relation", p.fault(), 2);
        p.relation(2);
        due("23: the relation is there", p.fault(), -1);
        p.values(2);
        p.relation(1);
        due("23: it has one place now", p.fault(), 5);
        due("23: sixty, and still too short", houseWithTape(2, "a:a=a" + "&a=a".repeat(13) + "&a=").fault(), 60);
        due("23: sixty, and at the last one", houseWithTape(2, "a:a=a" + "&a=a".repeat(13) + "&a:").fault(), 59);
    }

    private static void define() {
        Polymorphium p = new Polymorphium();
        relation(p, 2, 1, 3);
        due("24: its tuples", defined(p, "ab:0(a,c)&0(c,b)"), 2 + 8);
        due("24: its places", p.ofRelation(1, 0), 2);
        due("24: the tape is empty", p.wipe(), 0);
        due("24: equality", defined(p, "ab:a=b"), 1 + 8);
        due("24: the order of the head", defined(p, "ba:0(a,b)"), 4 + 8);
        due("24: of variables that no atom has", defined(p, "abc:a=a"), 255);
        due("24: no values of others", defined(p, "a:0(c,d)&0(d,c)&0(e,f)"), 3);
        p.tuple(0, 3, false);
        due("24: as relations are now", defined(p, "ab:0(b,a)"), 4);
        due("24: a relation once told stays", p.ofRelation(1, 1), 2 + 8);
        due("24: nothing holds", defined(p, "a:0(c,d)&0(d,c)"), 0);
        Polymorphium three = house(3);
        relation(three, 2, 1, 5, 6);
        due("24: around a ring", defined(three, "ab:0(a,c)&0(c,b)"), 8 + 128 + 4);
        due("24: with a loop", defined(three, "f:0(f,f)"), 0);
        due("24: all six variables", defined(three, "af:0(a,b)&0(b,c)&0(c,d)&0(d,e)&0(e,f)"), 8 + 128 + 4);
        due("24: a formula is one once only", outcome(three::define), ARGUMENT);
        // Fourteen atoms are the most that a tape can hold.
        due("24: a long one", defined(three, "ab:a=b&a=b&a=b&a=b&a=b&a=b&a=b&a=b&a=b&a=b&a=b&a=b&a=b&b=c"), 273);
        due("24: with a last atom that counts",
                defined(three, "ab:a=c&c=c&c=c&c=c&c=c&c=c&c=c&c=c&c=c&c=c&c=c&c=c&c=c&a=b"), 273);
    }

    private static void defineWrongInputs() {
        Polymorphium p = new Polymorphium();
        fails("24: an empty tape", ARGUMENT, p::define);
        type(p, "a:a=");
        fails("24: too short", ARGUMENT, p::define);
        due("24: the tape stays then", p.wipe(), 4);
        fillRelations(p);
        type(p, "a:a=a");
        fails("24: a ninth relation", STATE, p::define);
        due("24: the tape stays then too", p.wipe(), 5);
        type(p, "a:a=a)");
        fails("24: a ninth relation by no formula", ARGUMENT, p::define);
    }

    // ---- Promises 25 to 31

    private static void instance() {
        Polymorphium p = new Polymorphium();
        relation(p, 1, 0);
        for (int many : new int[] {0, 7, -1, MIN, MAX}) {
            fails("25: instance(" + many + ")", ARGUMENT, () -> p.instance(many));
        }
        due("25: none before", p.instance(6), 0);
        due("25: six variables", p.solutions(), 64);
        p.constrain(0, 5, -1, -1);
        p.constrain(0, 5, -1, -1);
        due("25: two constraints", p.solutions(), 32);
        due("25: two before", p.instance(6), 2);
        due("25: without constraints", p.solutions(), 64);
        due("25: one variable", p.instance(1) + " " + p.solutions(), "0 2");
        due("25: relations stay", p.ofRelation(0, 1), 1);
    }

    private static void constrain() {
        Polymorphium p = new Polymorphium();
        relation(p, 1, 1);
        relation(p, 2, 1);
        relation(p, 3, 1);
        p.instance(3);
        due("26: one place", p.constrain(0, 2, -1, -1), 1);
        due("26: then 1 alone", p.left(2), 2);
        due("26: two places", p.constrain(1, 2, 0, -1), 2);
        due("26: the first place comes first", p.left(0), 1);
        due("26: three places", p.constrain(2, 2, 1, 0), 3);
        due("26: the third place", p.solve(), 4);
        p.instance(2);
        p.constrain(1, 0, 1, -1);
        due("26: 1, 0", p.solve(), 1);
        p.tuple(1, 1, false);
        due("26: what it asks follows its relation", p.solve(), -1);
        p.tuple(1, 2, true);
        due("26: 0, 1", p.solve(), 2);
        due("26: the same variable twice", p.constrain(1, 0, 0, -1), 2);
        due("26: has no tuple", p.solutions(), 0);
        for (int i = 2; i < 15; i++) {
            p.constrain(0, 0, -1, -1);
        }
        due("26: the sixteenth", p.constrain(0, 0, -1, -1), 16);
        due("26: sixteen", p.instance(1), 16);
    }

    private static void constrainWrongInputs() {
        Polymorphium p = new Polymorphium();
        relation(p, 1, 1);
        relation(p, 2, 1);
        relation(p, 3, 1);
        p.instance(3);
        for (int number : new int[] {3, -1, 8, MIN, MAX}) {
            fails("26: relation " + number, INDEX, () -> p.constrain(number, -1, 0, 0));
        }
        for (int variable : new int[] {3, -2, 6, MIN, MAX}) {
            fails("26: first " + variable, INDEX, () -> p.constrain(2, variable, 0, 0));
            fails("26: second " + variable, INDEX, () -> p.constrain(2, 0, variable, 0));
            fails("26: third " + variable, INDEX, () -> p.constrain(2, 0, 0, variable));
            fails("26: a variable of no place " + variable, INDEX, () -> p.constrain(0, -1, variable, 0));
        }
        fails("26: no first", ARGUMENT, () -> p.constrain(0, -1, -1, -1));
        fails("26: a second of one", ARGUMENT, () -> p.constrain(0, 0, 0, -1));
        fails("26: a third of one", ARGUMENT, () -> p.constrain(0, 0, -1, 0));
        fails("26: no second", ARGUMENT, () -> p.constrain(1, 0, -1, -1));
        fails("26: a third of two", ARGUMENT, () -> p.constrain(1, 0, 0, 0));
        fails("26: a third for the second", ARGUMENT, () -> p.constrain(1, 0, -1, 0));
        fails("26: no third", ARGUMENT, () -> p.constrain(2, 0, 0, -1));
        due("26: none of them stands", p.instance(3), 0);
        for (int i = 0; i < 16; i++) {
            p.constrain(0, 0, -1, -1);
        }
        fails("26: a seventeenth", STATE, () -> p.constrain(0, 0, -1, -1));
        fails("26: a seventeenth without variable", ARGUMENT, () -> p.constrain(0, -1, -1, -1));
        fails("26: a seventeenth of no relation", INDEX, () -> p.constrain(3, 0, -1, -1));
        due("26: sixteen stand", p.instance(1), 16);
    }

    private static void solutions() {
        Polymorphium p = house(3);
        due("27: one variable", p.solutions() + " " + p.solutionsAnew() + " " + p.solve(), "3 3 0");
        relation(p, 2, 1, 2, 3, 5, 6, 7);
        p.instance(6);
        due("27: six variables", p.solutions() + " " + p.solutionsAnew() + " " + p.solve(), "729 729 0");
        for (int i = 0; i < 5; i++) {
            p.constrain(0, i, i + 1, -1);
        }
        due("27: a line of three colours", p.solutions(), 96);
        due("28: a line of three colours", p.solutionsAnew(), 96);
        due("29: 1, 0, 1, 0, 1, 0", p.solve(), 1 + 9 + 81);
        p.constrain(0, 5, 0, -1);
        due("27: a ring of six", p.solutions() + " " + p.solutionsAnew(), "66 66");
        p.constrain(0, 0, 2, -1);
        p.constrain(0, 3, 0, -1);
        p.constrain(0, 3, 1, -1);
        due("27: four that all are unlike", p.solutions() + " " + p.solutionsAnew() + " " + p.solve(), "0 0 -1");
        Polymorphium two = new Polymorphium();
        relation(two, 3, 1, 2, 4);
        two.instance(4);
        two.constrain(0, 0, 1, 2);
        two.constrain(0, 1, 2, 3);
        due("27: one of three", two.solutions() + " " + two.solutionsAnew() + " " + two.solve(), "3 3 2");
        two.constrain(0, 3, 3, 0);
        due("27: with a variable twice", two.solutions() + " " + two.solutionsAnew() + " " + two.solve(), "0 0 -1");
        two.instance(2);
        two.constrain(0, 0, 0, 1);
        due("27: 0, 0, 1", two.solutions() + " " + two.solutionsAnew() + " " + two.solve(), "1 1 2");
    }

    private static void left() {
        Polymorphium p = house(3);
        relation(p, 2, 3, 6, 7);
        relation(p, 2, 0, 4, 8, 1);
        p.relation(1);
        p.instance(4);
        p.constrain(0, 0, 1, -1);
        due("30: less than another", p.left(0) + " " + p.left(1), "3 6");
        p.constrain(0, 1, 2, -1);
        due("30: one less than the next", p.left(0) + " " + p.left(1) + " " + p.left(2), "1 2 4");
        due("30: not in a constraint", p.left(3), 7);
        p.constrain(0, 2, 0, -1);
        due("30: in a ring nothing is left", p.left(0) + " " + p.left(1) + " " + p.left(2), "0 0 0");
        due("30: but of others it is", p.left(3), 7);
        p.instance(2);
        p.constrain(1, 0, 0, -1);
        due("30: like places alone count", p.left(0), 7);
        p.tuple(1, 4, false);
        due("30: 1 with itself is gone", p.left(0), 5);
        p.constrain(2, 1, -1, -1);
        due("30: a relation without tuples", p.left(1) + " " + p.left(0), "0 5");
        for (int variable : new int[] {2, -1, 6, MIN, MAX}) {
            fails("30: variable " + variable, INDEX, () -> p.left(variable));
        }
        // Two unlike values cannot go round a ring of three, but each by itself is left.
        Polymorphium two = new Polymorphium();
        relation(two, 2, 1, 2);
        two.instance(3);
        two.constrain(0, 0, 1, -1);
        two.constrain(0, 1, 2, -1);
        two.constrain(0, 2, 0, -1);
        due("30: values alone do not tell", two.left(0) + " " + two.solutions(), "3 0");
        due("31: pairs do", two.pairs(0, 1), 0);
    }

    /** 0 and 1 stand at the ends of a line of four, so that what is left of them takes more than one step. */
    private static void pairsOnALine() {
        Polymorphium p = new Polymorphium();
        relation(p, 2, 1, 2);
        p.instance(4);
        p.constrain(0, 1, 3, -1);
        p.constrain(0, 3, 2, -1);
        due("31: with one between", p.pairs(1, 2), 1 + 8);
        due("31: without a line between", p.pairs(0, 1), 15);
        p.constrain(0, 0, 2, -1);
        due("31: with two between", p.pairs(0, 1), 2 + 4);
        due("31: values by themselves are left", p.left(0), 3);
    }

    private static void pairs() {
        Polymorphium p = house(3);
        relation(p, 2, 3, 6, 7);
        p.relation(1);
        p.instance(4);
        due("31: all at first", p.pairs(0, 1), 511);
        p.constrain(0, 0, 1, -1);
        due("31: of a constraint", p.pairs(0, 1), 8 + 64 + 128);
        due("31: the other way round", p.pairs(1, 0), 2 + 4 + 32);
        due("31: with another variable", p.pairs(0, 2), 511 & ~(4 + 32 + 256));
        p.constrain(0, 1, 2, -1);
        due("31: by a third variable", p.pairs(0, 2), 64);
        due("31: with one in no constraint", p.pairs(3, 1), 8 + 16 + 32);
        p.tuple(1, 0, true);
        p.constrain(1, 3, -1, -1);
        due("31: one place", p.pairs(3, 1), 8);
        p.tuple(1, 0, false);
        due("31: no tuple can stand", p.pairs(0, 1), 0);
        for (int variable : new int[] {4, -1, 6, MIN, MAX}) {
            fails("31: second " + variable, INDEX, () -> p.pairs(0, variable));
            fails("31: first " + variable, INDEX, () -> p.pairs(variable, 0));
            fails("31: both " + variable, INDEX, () -> p.pairs(variable, variable));
        }
        fails("31: the same", ARGUMENT, () -> p.pairs(2, 2));
        Polymorphium two = new Polymorphium();
        relation(two, 3, 3, 5, 6);
        two.instance(2);
        two.constrain(0, 0, 0, 1);
        due("31: a variable twice", two.pairs(0, 1), 2);
        two.instance(3);
        two.constrain(0, 0, 1, 2);
        due("31: two of three places", two.pairs(0, 2), 2 + 4 + 8);
        pairsOnALine();
        two.instance(1);
        fails("31: there is one variable", INDEX, () -> two.pairs(0, 1));
        fails("31: the same, of one", ARGUMENT, () -> two.pairs(0, 0));
    }
}
