/** Operations, sentence by sentence: the terms of them, and the promises 6 to 16. */
final class OperationEdges extends Checks {
    private static final int LEAST = Polymorphium.LEAST;
    private static final int GREATEST = Polymorphium.GREATEST;
    private static final int MIDDLE = Polymorphium.MIDDLE;
    private static final int AFFINE = Polymorphium.AFFINE;
    private static final int CYCLE = Polymorphium.CYCLE;
    private static final int IDEMPOTENT = Polymorphium.IDEMPOTENT;
    private static final int SYMMETRIC = Polymorphium.SYMMETRIC;
    private static final int ASSOCIATES = Polymorphium.ASSOCIATES;
    private static final int MAJORITY = Polymorphium.MAJORITY;
    private static final int MALTSEV = Polymorphium.MALTSEV;
    /** Of three values: each is against associating for one x, y and z alone, not two of them with the same. */
    private static final String[] FAILING_ONCE = {"200012012", "100012012", "002212222", "002022022", "002111222",
        "010111112", "002012012", "002112221", "200011022", "012212222", "000112222", "000022222", "000002000",
        "000011222", "000010012", "000001000", "100011022", "000111212", "011111212", "000111022", "000000020",
        "000010022", "000111011", "000000010"};
    private static final String MIDDLE_OF_THREE = "000011012011111112012112222";
    private static final String AFFINE_OF_THREE = "012201120120012201201120012";

    private OperationEdges() { }

    static void check() {
        constants();
        numbersAndPlaces();
        codesOfPointsAndOperations();
        applying();
        idempotentAndSymmetric();
        associates();
        majorityAndMaltsev();
        made();
        operation();
        make();
        answers();
        refusedAnswers();
        code();
        keeps();
        breaks();
        has();
        closed();
        monoid();
        binary();
        binaryOfLastOnes();
        kept();
    }

    /** What the operation of a number answers for all its points, in the order of their codes. */
    private static String table(Polymorphium p, int operation) {
        StringBuilder table = new StringBuilder();
        for (int point = 0; point < 28; point++) {
            int at = point;
            Object before = outcome(() -> p.answers(operation, at, 0));
            if (!(before instanceof Integer)) {
                break;
            }
            p.answers(operation, at, (Integer) before);
            table.append(before);
        }
        return table.toString();
    }

    private static String made(int many, int what) {
        return table(ofMade(many, what), 0);
    }

    private static Polymorphium withOperation(int many, int places, String answers) {
        Polymorphium p = house(many);
        operation(p, places, answers);
        return p;
    }

    private static Polymorphium ofMade(int many, int what) {
        Polymorphium p = house(many);
        p.make(what);
        return p;
    }

    private static boolean has(int many, int places, String answers, int identity) {
        return withOperation(many, places, answers).has(0, identity);
    }

    private static boolean has(int many, int what, int identity) {
        return ofMade(many, what).has(0, identity);
    }

    // ---- terms

    private static void constants() {
        says(0, "The constants: `NONE = -1`: None.");
        due("NONE", Polymorphium.NONE, -1);
        says(0, "`IDEMPOTENT = 0, SYMMETRIC = 1, ASSOCIATES = 2, MAJORITY = 3, MALTSEV = 4`: Identities.");
        due("in order", "" + IDEMPOTENT + SYMMETRIC + ASSOCIATES + MAJORITY + MALTSEV, "01234");
        says(0, "`LEAST = 0, GREATEST = 1, MIDDLE = 2, AFFINE = 3, CYCLE = 4`: Operations that are made.");
        due("in order", "" + LEAST + GREATEST + MIDDLE + AFFINE + CYCLE, "01234");
        says(0, "`CONSTANT = 0, SEMILATTICE = 1, VOTE = 2, SUM = 3`: Kinds for which a template is asked.");
        due("in order", "" + Polymorphium.CONSTANT + Polymorphium.SEMILATTICE + Polymorphium.VOTE + Polymorphium.SUM,
                "0123");
    }

    private static void numbersAndPlaces() {
        says(0, "Operations are numbered from 0, at most 6;");
        for (int d : BOTH) {
            Polymorphium p = house(d);
            for (int number = 0; number < 6; number++) {
                due("number", number % 2 == 0 ? p.operation(1) : p.make(number % 5), number);
            }
            due("a seventh", outcome(() -> p.operation(1)), STATE);
            due("a seventh that is made", outcome(() -> p.make(0)), STATE);
            due("the first is there", outcome(() -> p.has(0, IDEMPOTENT)), true);
            due("the last is there", outcome(() -> p.has(5, SYMMETRIC)), true);
        }
        says(0, "an operation has 1 to 3 places and answers a value for any values on these.");
        for (int d : BOTH) {
            for (int places = 1; places <= 3; places++) {
                Polymorphium p = house(d);
                p.operation(places);
                due("its points, with " + d, table(p, 0).length(), power(d, places));
            }
            due("no places", outcome(() -> house(d).operation(0)), ARGUMENT);
            due("four places", outcome(() -> house(d).operation(4)), ARGUMENT);
        }
        says(0, "At first an operation answers the value on its first place.");
        due("1 place", atFirst(2, 1), "01");
        due("2 places", atFirst(2, 2), "0101");
        due("3 places", atFirst(2, 3), "01010101");
        due("1 place of 3", atFirst(3, 1), "012");
        due("2 places of 3", atFirst(3, 2), "012012012");
        due("3 places of 3", atFirst(3, 3), "012".repeat(9));
    }

    private static String atFirst(int many, int places) {
        Polymorphium p = house(many);
        p.operation(places);
        return table(p, 0);
    }

    private static void codesOfPointsAndOperations() {
        says(0, "A point is some values on its places;");
        says(0, "the code of a point is made like that of a tuple.");
        for (int d : BOTH) {
            String first = atFirst(d, 3);
            String affine = made(d, AFFINE);
            String least = made(d, LEAST);
            for (int x = 0; x < d; x++) {
                for (int y = 0; y < d; y++) {
                    due("LEAST of two places", least.charAt(x + d * y) - '0', Math.min(x, y));
                    for (int z = 0; z < d; z++) {
                        int point = x + d * y + d * d * z;
                        due("the first of three places", first.charAt(point) - '0', x);
                        due("x - y + z", affine.charAt(point) - '0', Math.floorMod(x - y + z, d));
                    }
                }
            }
        }
        sums();
    }

    private static void sums() {
        says(0, "The code of an operation is the sum, over all points, of what it answers for the point, times d to "
                + "the power of the code of the point.");
        for (int d : BOTH) {
            for (int places = 1; places <= 3; places++) {
                int points = power(d, places);
                due("the least", withOperation(d, places, "0".repeat(points)).code(0), 0L);
                long all = 1;
                for (int i = 0; i < points; i++) {
                    all *= d;
                }
                due("the greatest", withOperation(d, places, ("" + (d - 1)).repeat(points)).code(0), all - 1);
                long weight = 1;
                for (int point = 0; point < points; point++) {
                    Polymorphium p = withOperation(d, places, "0".repeat(points));
                    p.answers(0, point, d - 1);
                    due("one point, " + point, p.code(0), (d - 1) * weight);
                    weight *= d;
                }
            }
        }
        due("the greatest of all is no int", withOperation(3, 3, "2".repeat(27)).code(0), 7625597484986L);
    }

    private static void applying() {
        says(0, "To apply an operation to as many tuples as it has places is to make a tuple that has on each place "
                + "what the operation answers for the values of these tuples on that place, in their order.");
        Polymorphium p = withOperation(3, 2, "001000000");
        relation(p, 1, 0, 2);
        due("2, then 0", p.breaks(0, 0), 1);
        p.answers(0, 2, 0);
        p.answers(0, 6, 1);
        due("0, then 2", p.breaks(0, 0), 1);
        p.answers(0, 6, 0);
        p.answers(0, 1, 1);
        due("1, then 0, which is none of it", p.breaks(0, 0), NONE);
        Polymorphium q = withOperation(2, 3, "00000000");
        relation(q, 3, 0, 3, 5, 6);
        // The tuples 1, 1, 0 and 1, 0, 1 and 0, 1, 1 make the points 1, 1, 0 and 1, 0, 1 and 0, 1, 1.
        q.answers(0, 3, 1);
        due("on the first place", q.breaks(0, 0), 1);
        says(0, "It keeps a relation, if each tuple that comes by applying it to any tuples of the relation, some of "
                + "them perhaps the same one, is a tuple of the relation.");
        for (int d : BOTH) {
            for (int places = 1; places <= 3; places++) {
                Polymorphium same = house(d);
                same.operation(places);
                relation(same, 1, d - 1);
                due("one tuple alone, with itself", same.keeps(0, 0), true);
                same.answers(0, power(d, places) - 1, 0);
                due("another answer for it with itself", same.keeps(0, 0), false);
            }
            Polymorphium empty = house(d);
            empty.relation(most(d));
            empty.make(CYCLE);
            due("no tuples, none comes", empty.keeps(0, 0), true);
        }
        Polymorphium last = withOperation(3, 3, "0".repeat(26) + "1");
        relation(last, 2, 0, 8);
        due("the last one thrice", last.keeps(0, 0), false);
        due("makes 1, 1", last.breaks(0, 0), 4);
    }

    private static void idempotentAndSymmetric() {
        says(0, "An operation is IDEMPOTENT, if it answers x whenever all values are x;");
        for (int d : BOTH) {
            for (int places = 1; places <= 3; places++) {
                int points = power(d, places);
                Polymorphium p = house(d);
                p.operation(places);
                due("at first", p.has(0, IDEMPOTENT), true);
                for (int point = 0; point < points; point++) {
                    int before = p.answers(0, point, 0);
                    p.answers(0, point, (before + 1) % d);
                    boolean isLike = point % ((points - 1) / (d - 1)) == 0;
                    due("another answer at " + point + " of " + points, p.has(0, IDEMPOTENT), !isLike);
                    p.answers(0, point, before);
                }
            }
        }
        says(0, "SYMMETRIC, if it answers the same for the same values in any order;");
        for (int d : BOTH) {
            due("of one place, any", has(d, 1, "10", SYMMETRIC), true);
            due("the first of two", has(d, 2, "", SYMMETRIC), false);
            due("the first of three", has(d, 3, "", SYMMETRIC), false);
            due("LEAST", has(d, LEAST, SYMMETRIC), true);
            due("MIDDLE", has(d, MIDDLE, SYMMETRIC), true);
            Polymorphium p = house(d);
            p.make(MIDDLE);
            for (int point = 0; point < power(d, 3); point++) {
                int before = p.answers(0, point, 0);
                p.answers(0, point, (before + 1) % d);
                boolean isLike = point % ((power(d, 3) - 1) / (d - 1)) == 0;
                due("another answer at " + point, p.has(0, SYMMETRIC), isLike);
                p.answers(0, point, before);
            }
        }
        due("in the first two places alone", has(2, 3, "00010000", SYMMETRIC), false);
        due("in the last two places alone", has(2, 3, "01000001", SYMMETRIC), false);
        due("in the first and the last alone", has(2, 3, "00100000", SYMMETRIC), false);
        due("by turns alone", has(3, 3, "000001000000000100010000000", SYMMETRIC), false);
    }

    private static void associates() {
        says(0, "it ASSOCIATES, if it has two places, and answers for x and (what it answers for y and z) the same "
                + "as for (what it answers for x and y) and z, for all x, y and z;");
        for (int d : BOTH) {
            due("of one place", has(d, 1, "", ASSOCIATES), false);
            due("of three places", has(d, 3, "", ASSOCIATES), false);
            due("always the same, of three places", has(d, 3, "0".repeat(power(d, 3)), ASSOCIATES), false);
            due("the first of two", has(d, 2, "", ASSOCIATES), true);
            due("LEAST", has(d, LEAST, ASSOCIATES), true);
            due("always the same", has(d, 2, "0".repeat(d * d), ASSOCIATES), true);
        }
        int associating = 0;
        for (int code = 0; code < 16; code++) {
            String answers = "" + (code & 1) + (code >> 1 & 1) + (code >> 2 & 1) + (code >> 3);
            associating += has(2, 2, answers, ASSOCIATES) ? 1 : 0;
        }
        due("how many do, with two values", associating, 8);
        due("x - y", has(3, 2, "012201120", ASSOCIATES), false);
        due("x + y", has(3, 2, "012120201", ASSOCIATES), true);
        for (String answers : FAILING_ONCE) {
            due("not for three values, but for all others: " + answers, has(3, 2, answers, ASSOCIATES), false);
        }
    }

    private static void majorityAndMaltsev() {
        says(0, "it is a MAJORITY, if it has three places, and answers x whenever two or three of the values are x;");
        for (int d : BOTH) {
            due("of one place", has(d, 1, "", MAJORITY), false);
            due("of two places", has(d, LEAST, MAJORITY), false);
            Polymorphium p = house(d);
            p.make(MIDDLE);
            due("MIDDLE", p.has(0, MAJORITY), true);
            for (int point = 0; point < power(d, 3); point++) {
                int before = p.answers(0, point, 0);
                p.answers(0, point, (before + 1) % d);
                boolean isOneOfEach = point % d != point / d % d && point % d != point / d / d
                        && point / d % d != point / d / d;
                due("another answer at " + point, p.has(0, MAJORITY), isOneOfEach);
                p.answers(0, point, before);
            }
        }
        says(0, "a MALTSEV, if it has three places, and answers x for x, y, y, and for y, y, x, for all x and y.");
        for (int d : BOTH) {
            due("of one place", has(d, 1, "", MALTSEV), false);
            due("of two places", has(d, LEAST, MALTSEV), false);
            Polymorphium p = house(d);
            p.make(AFFINE);
            due("AFFINE", p.has(0, MALTSEV), true);
            for (int point = 0; point < power(d, 3); point++) {
                int before = p.answers(0, point, 0);
                p.answers(0, point, (before + 1) % d);
                boolean isAsked = point / d % d == point / d / d || point % d == point / d % d;
                due("another answer at " + point, p.has(0, MALTSEV), !isAsked);
                p.answers(0, point, before);
            }
        }
    }

    private static void made() {
        says(0, "Operations are made thus: LEAST has two places, and answers the lesser value, GREATEST the greater "
                + "one;");
        due("LEAST", made(2, LEAST), "0001");
        due("LEAST of 3", made(3, LEAST), "000011012");
        due("GREATEST", made(2, GREATEST), "0111");
        due("GREATEST of 3", made(3, GREATEST), "012112222");
        says(0, "MIDDLE has three, and answers the middle one by size;");
        due("MIDDLE", made(2, MIDDLE), "00010111");
        due("MIDDLE of 3", made(3, MIDDLE), MIDDLE_OF_THREE);
        says(0, "AFFINE has three, and answers for x, y and z the remainder, not below 0, of x - y + z by d;");
        due("AFFINE", made(2, AFFINE), "01101001");
        due("AFFINE of 3", made(3, AFFINE), AFFINE_OF_THREE);
        for (int d : BOTH) {
            Polymorphium p = house(d);
            p.make(AFFINE);
            due("the least sum, below 0", p.answers(0, d * (d - 1), 0), 1);
            due("the greatest sum", p.answers(0, d - 1 + d * d * (d - 1), 0), d == 2 ? 0 : 1);
            due("d itself", p.answers(0, d - 1 + d * d, 0), 0);
        }
        says(0, "CYCLE has one, and answers for x the remainder of x and 1, together, modulo d.");
        due("CYCLE", made(2, CYCLE), "10");
        due("CYCLE of 3", made(3, CYCLE), "120");
    }

    // ---- promises 6 to 9

    private static void operation() {
        says(6, "Takes an operation up.");
        for (int d : BOTH) {
            // Answers that were told before the house began anew are gone.
            Polymorphium p = full(d);
            p.values(d);
            for (int places = 1; places <= 3; places++) {
                due("anew, of " + places, table(p, p.operation(places)), atFirst(d, places));
            }
        }
        says(6, "`places`: 1 to 3");
        for (int d : BOTH) {
            due("the least", atFirst(d, 1).length(), d);
            due("the greatest", atFirst(d, 3).length(), d * d * d);
        }
        says(6, "Returns its number.");
        Polymorphium p = house(2);
        for (int number = 0; number < 6; number++) {
            due("number", p.operation(1 + number % 3), number);
        }
        says(6, "Throws `IllegalArgumentException` if places is out of range");
        for (int d : BOTH) {
            refusesAll("a new house", () -> house(d), ARGUMENT, outside(1, 3), (q, places) -> q.operation(places));
            refusesAll("some", () -> furnished(d), ARGUMENT, outside(1, 3), (q, places) -> q.operation(places));
            // It is named first.
            refusesAll("full", () -> full(d), ARGUMENT, outside(1, 3), (q, places) -> q.operation(places));
        }
        says(6, "Throws `IllegalStateException` if there are 6");
        for (int d : BOTH) {
            refusesAll("full", () -> full(d), STATE, new int[] {1, 2, 3}, (q, places) -> q.operation(places));
        }
    }

    private static void make() {
        says(7, "Makes an operation.");
        for (int d : BOTH) {
            Polymorphium p = house(d);
            for (int what = LEAST; what <= CYCLE; what++) {
                due("in a house of others", table(p, p.make(what)), made(d, what));
            }
        }
        says(7, "`what`: LEAST to CYCLE");
        due("the least", made(2, LEAST), "0001");
        due("the greatest", made(2, CYCLE), "10");
        says(7, "Returns its number.");
        Polymorphium p = house(3);
        for (int number = 0; number < 6; number++) {
            due("number", p.make(number % 5), number);
        }
        says(7, "Throws `IllegalArgumentException` if what is out of range");
        for (int d : BOTH) {
            refusesAll("a new house", () -> house(d), ARGUMENT, outside(LEAST, CYCLE), (q, what) -> q.make(what));
            refusesAll("some", () -> furnished(d), ARGUMENT, outside(LEAST, CYCLE), (q, what) -> q.make(what));
            // It is named first.
            refusesAll("full", () -> full(d), ARGUMENT, outside(LEAST, CYCLE), (q, what) -> q.make(what));
        }
        says(7, "Throws `IllegalStateException` if there are 6");
        for (int d : BOTH) {
            refusesAll("full", () -> full(d), STATE, new int[] {0, 1, 2, 3, 4}, (q, what) -> q.make(what));
        }
    }

    private static void answers() {
        says(8, "Tells what an operation answers for a point.");
        for (int d : BOTH) {
            for (int point = 0; point < d * d; point++) {
                Polymorphium p = house(d);
                p.operation(2);
                StringBuilder want = new StringBuilder();
                for (int at = 0; at < d * d; at++) {
                    want.append(at == point ? (at % d + 1) % d : at % d);
                }
                p.answers(0, point, (point % d + 1) % d);
                due("at " + point + " alone", table(p, 0), want);
            }
        }
        says(8, "`operation`: its number");
        for (int number = 0; number < 6; number++) {
            Polymorphium p = house(2);
            fillOperations(p);
            p.answers(number, 0, 1);
            for (int other = 0; other < 6; other++) {
                due(number + " alone", p.code(other), other == number ? 3L : 2L);
            }
        }
        says(8, "`point`: the code of the point");
        for (int d : BOTH) {
            for (int places = 1; places <= 3; places++) {
                Polymorphium p = house(d);
                p.operation(places);
                due("the first", p.answers(0, 0, 1), 0);
                due("the last", p.answers(0, power(d, places) - 1, 0), d - 1);
            }
        }
        says(8, "`value`: 0 to one less than there are values");
        for (int d : BOTH) {
            Polymorphium p = house(d);
            p.make(MIDDLE);
            for (int value = 0; value < d; value++) {
                p.answers(0, 0, value);
                due("the value " + value, p.answers(0, 0, value), value);
            }
        }
        says(8, "Returns what it answered.");
        Polymorphium p = house(3);
        p.operation(1);
        due("at first", p.answers(0, 2, 1), 2);
        due("the same once more", p.answers(0, 2, 1), 1);
        due("then another", p.answers(0, 2, 0), 1);
        due("then that", p.answers(0, 2, 2), 0);
    }

    private static void refusedAnswers() {
        says(8, "Throws `IndexOutOfBoundsException` if there is no such operation, or point of so many places");
        for (int value : new int[] {0, -1, 3, MIN, MAX}) {
            // It is named first, so that it is thrown too if value is out of range.
            refusesOperations((p, number) -> p.answers(number, 0, value));
        }
        refusesOperations((p, number) -> p.answers(number, MIN, 0));
        for (int d : BOTH) {
            for (int places = 1; places <= 3; places++) {
                int width = places;
                for (int value : new int[] {0, -1, 3, MIN, MAX}) {
                    refusesAll("point of " + places + " places", () -> withOperation(d, width, ""), INDEX,
                            outside(0, power(d, places) - 1), (p, point) -> p.answers(0, point, value));
                }
            }
        }
        says(8, "Throws `IllegalArgumentException` if value is out of range");
        for (int d : BOTH) {
            int[] values = outside(0, d - 1);
            refusesAll("the first point", () -> furnished(d), ARGUMENT, values, (p, value) -> p.answers(2, 0, value));
            refusesAll("the last point", () -> furnished(d), ARGUMENT, values,
                    (p, value) -> p.answers(2, d * d * d - 1, value));
            refusesAll("the last operation", () -> full(d), ARGUMENT, values, (p, value) -> p.answers(5, 0, value));
        }
    }

    private static void code() {
        says(9, "Returns the code of an operation.");
        due("the least", withOperation(3, 3, "0".repeat(27)).code(0), 0L);
        due("the greatest", withOperation(3, 3, "2".repeat(27)).code(0), 7625597484986L);
        says(9, "`operation`: its number");
        Polymorphium p = full(2);
        due("the first", p.code(0), 8L);
        due("the last", p.code(5), 6L);
        says(9, "Throws `IndexOutOfBoundsException` if there is no such operation");
        refusesOperations((q, number) -> q.code(number));
    }

    // ---- promises 10 to 13

    private static void keeps() {
        says(10, "Returns whether an operation keeps a relation.");
        for (int d : BOTH) {
            for (int what = LEAST; what <= CYCLE; what++) {
                Polymorphium p = house(d);
                p.make(what);
                p.relation(most(d));
                due("an empty one", p.keeps(0, 0), true);
                for (int code = 0; code < power(d, most(d)); code++) {
                    p.tuple(0, code, true);
                }
                due("a full one", p.keeps(0, 0), true);
                p.tuple(0, 0, false);
                // With three values no three pairs have a middle that is none of them, where each place is the same.
                boolean isMiddle = d == 3 && what == MIDDLE;
                due("without its first tuple", p.keeps(0, 0), what == GREATEST || isMiddle);
                p.tuple(0, 0, true);
                p.tuple(0, power(d, most(d)) - 1, false);
                due("without its last tuple", p.keeps(0, 0), what == LEAST || isMiddle);
            }
        }
        says(10, "`operation`: its number");
        Polymorphium p = full(2);
        relationAnew(p);
        due("the first", p.keeps(0, 1), false);
        due("the last", p.keeps(5, 1), false);
        due("one between", p.keeps(2, 1), true);
        says(10, "`relation`: its number");
        due("the first", p.keeps(4, 0), true);
        due("the last", p.keeps(4, 7), false);
        says(10, "Throws `IndexOutOfBoundsException` if there is no such operation or relation");
        refusesOperations((q, number) -> q.keeps(number, 0));
        refusesRelations((q, number) -> q.keeps(0, number));
        refusesRelations((q, number) -> q.keeps(-1, number));
        refusesOperations((q, number) -> q.keeps(number, MAX));
    }

    /** Makes the relation 1 of a full house that of unlike values. */
    private static void relationAnew(Polymorphium p) {
        p.tuple(1, 3, false);
        p.tuple(1, 0, false);
        p.tuple(1, 1, true);
        p.tuple(1, 2, true);
    }

    private static void breaks() {
        says(11, "Returns the lowest code of a tuple that comes by applying an operation to tuples of a relation, "
                + "and is none of it.");
        for (int d : BOTH) {
            int last = power(d, most(d)) - 1;
            Polymorphium p = house(d);
            p.make(CYCLE);
            p.relation(most(d));
            for (int code = 0; code <= last; code++) {
                p.tuple(0, code, code != last);
            }
            due("the greatest code", p.breaks(0, 0), last);
            p.tuple(0, 0, false);
            p.tuple(0, last, true);
            due("the least code", p.breaks(0, 0), 0);
            p.tuple(0, 1, false);
            p.tuple(0, 2, false);
            due("the lowest of more", p.breaks(0, 0), 0);
            Polymorphium q = withOperation(d, 1, "");
            q.answers(0, 0, 1);
            relation(q, 2, 0);
            due("one that is not of the relation's tuples", q.breaks(0, 0), 1 + d);
        }
        says(11, "NONE if the relation is kept.");
        for (int d : BOTH) {
            Polymorphium p = house(d);
            p.make(CYCLE);
            p.relation(1);
            due("an empty one", p.breaks(0, 0), NONE);
            for (int code = 0; code < d; code++) {
                p.tuple(0, code, true);
            }
            due("a full one", p.breaks(0, 0), NONE);
            p.operation(2);
            p.tuple(0, 0, false);
            due("any, by the value on the first place", p.breaks(1, 0), NONE);
        }
        says(11, "Returns the code;");
        Polymorphium p = full(2);
        relationAnew(p);
        due("of LEAST", p.breaks(0, 1), 0);
        due("of GREATEST", p.breaks(1, 1), 3);
        says(11, "`operation`: its number");
        due("the last", p.breaks(5, 1), 0);
        due("one between", p.breaks(2, 1), NONE);
        says(11, "`relation`: its number");
        due("the first", p.breaks(4, 0), NONE);
        due("the last", p.breaks(4, 7), 2);
        says(11, "Throws `IndexOutOfBoundsException` if there is no such operation or relation");
        refusesOperations((q, number) -> q.breaks(number, 0));
        refusesRelations((q, number) -> q.breaks(0, number));
        refusesRelations((q, number) -> q.breaks(-1, number));
        refusesOperations((q, number) -> q.breaks(number, MAX));
    }

    private static void has() {
        says(12, "Returns whether an operation has an identity.");
        due("all that MIDDLE has", allOf(3, MIDDLE), "11010");
        due("all that LEAST has", allOf(3, LEAST), "11100");
        due("all that AFFINE has", allOf(3, AFFINE), "10001");
        due("all that AFFINE has with 2", allOf(2, AFFINE), "11001");
        due("all that CYCLE has", allOf(3, CYCLE), "01000");
        says(12, "`operation`: its number");
        Polymorphium p = full(2);
        due("the first", p.has(0, IDEMPOTENT), true);
        due("the last", p.has(5, IDEMPOTENT), false);
        says(12, "`identity`: IDEMPOTENT to MALTSEV");
        due("the least", p.has(4, IDEMPOTENT), false);
        due("the greatest", p.has(3, MALTSEV), true);
        says(12, "Throws `IndexOutOfBoundsException` if there is no such operation");
        for (int identity : new int[] {IDEMPOTENT, MALTSEV, -1, 5, MIN, MAX}) {
            // It is named first, so that it is thrown too if identity is out of range.
            refusesOperations((q, number) -> q.has(number, identity));
        }
        says(12, "Throws `IllegalArgumentException` if identity is out of range");
        for (int d : BOTH) {
            int[] identities = outside(IDEMPOTENT, MALTSEV);
            refusesAll("the first", () -> full(d), ARGUMENT, identities, (q, identity) -> q.has(0, identity));
            refusesAll("the last", () -> full(d), ARGUMENT, identities, (q, identity) -> q.has(5, identity));
        }
    }

    private static String allOf(int many, int what) {
        StringBuilder all = new StringBuilder();
        for (int identity = IDEMPOTENT; identity <= MALTSEV; identity++) {
            all.append(has(many, what, identity) ? 1 : 0);
        }
        return all.toString();
    }

    private static void closed() {
        says(13, "Returns the set of tuples of the least relation that has all tuples of a relation and is kept by "
                + "an operation.");
        for (int d : BOTH) {
            int codes = power(d, most(d));
            Polymorphium p = house(d);
            p.make(CYCLE);
            p.make(MIDDLE);
            p.relation(most(d));
            due("of none", p.closed(0, 0), 0);
            p.tuple(0, 0, true);
            due("of one, as many steps as there are values", p.closed(0, 0), d == 2 ? 1 + 128 : 1 + 16 + 256);
            due("one that is kept", p.closed(1, 0), 1);
            for (int code = 0; code < codes; code++) {
                p.tuple(0, code, true);
            }
            due("of all", p.closed(0, 0), (1 << codes) - 1);
            due("it asks alone", p.ofRelation(0, 2), codes);
        }
        Polymorphium p = withOperation(3, 2, "120120120");
        relation(p, 2, 1);
        due("step by step", p.closed(0, 0), 2 + 32 + 64);
        // From 0 comes 1, from 0 and 1 comes 2: what comes is applied again.
        Polymorphium q = withOperation(3, 2, "100200000");
        relation(q, 1, 0);
        due("what comes makes more", q.closed(0, 0), 7);
        says(13, "`operation`: its number");
        due("the first", full(2).closed(0, 1), 7 + 8);
        due("the last", full(2).closed(5, 1), 15);
        says(13, "`relation`: its number");
        due("the first", full(2).closed(4, 0), 3);
        due("the last", full(2).closed(4, 7), 15);
        says(13, "Throws `IndexOutOfBoundsException` if there is no such operation or relation");
        refusesOperations((r, number) -> r.closed(number, 0));
        refusesRelations((r, number) -> r.closed(0, number));
        refusesRelations((r, number) -> r.closed(-1, number));
        refusesOperations((r, number) -> r.closed(number, MAX));
    }

    // ---- promises 14 to 16

    private static void monoid() {
        says(0, "From operations of one place come all operations of one place that answer as some of these do, "
                + "applied one behind the other, each one as often as may be, or none at all, so that the value "
                + "itself is answered.");
        due("none at all", house(2).monoid(), 1);
        due("none at all, of 3", house(3).monoid(), 1);
        due("as often as may be", withOperation(3, 1, "120").monoid(), 3);
        due("one once, then it stays", withOperation(3, 1, "000").monoid(), 2);
        due("one twice, then it stays", withOperation(3, 1, "001").monoid(), 3);
        Polymorphium order = withOperation(3, 1, "002");
        operation(order, 1, "021");
        // 012, 002, 021, 001, 020, 000, 010: either may be the first.
        due("in either order", order.monoid(), 7);
        says(14, "Returns how many operations come from those with one place.");
        for (int d : BOTH) {
            Polymorphium p = house(d);
            operation(p, 2, "1".repeat(d * d));
            operation(p, 3, "1".repeat(d * d * d));
            due("those with more places are not asked", p.monoid(), 1);
            p.operation(1);
            due("nor does the value itself bring more", p.monoid(), 1);
        }
        Polymorphium p = house(3);
        p.make(CYCLE);
        operation(p, 1, "102");
        operation(p, 1, "002");
        due("all of them", p.monoid(), 27);
        Polymorphium q = house(2);
        for (int i = 0; i < 5; i++) {
            q.operation(1);
        }
        q.make(CYCLE);
        due("the last operation", q.monoid(), 2);
        Polymorphium r = withOperation(2, 1, "00");
        r.make(CYCLE);
        due("all of them with 2", r.monoid(), 4);
    }

    private static void binary() {
        says(0, "From operations of any places come, with two values, these operations of two places: the one that "
                + "answers the value on its first place, the one that answers that on its second one, and, with any "
                + "that come so, as many as an operation has places, the one that answers what that operation "
                + "answers for what these answer.");
        int both = 1 << 10 | 1 << 12;
        due("both places alone", house(2).binary(), both);
        due("of one place", withOperation(2, 1, "10").binary(), both | 1 << 5 | 1 << 3);
        due("of two places", withOperation(2, 2, "0001").binary(), both | 1 << 8);
        due("of two places, in their order", withOperation(2, 2, "0100").binary(), both | 1 | 1 << 2 | 1 << 4 | 1 << 8);
        due("of three places", withOperation(2, 3, "01101001").binary(), both);
        due("of three places, the third counts", withOperation(2, 3, "00001111").binary(), both);
        due("what comes so makes more", withOperation(2, 2, "1110").binary(), 65535);
        says(15, "Returns the set of codes of the operations of two places that come from all operations, as bits, "
                + "that of the code 0 lowest.");
        due("the code 0", withOperation(2, 1, "00").binary(), both | 1);
        due("the code 15", withOperation(2, 1, "11").binary(), both | 1 << 15);
        Polymorphium p = house(2);
        p.make(LEAST);
        p.make(GREATEST);
        due("of two operations", p.binary(), both | 1 << 8 | 1 << 14);
        p.make(CYCLE);
        due("all sixteen", p.binary(), 65535);
        says(15, "Throws `IllegalStateException` if there are 3 values");
        refuses("a new house", () -> house(3), STATE, q -> q.binary());
        refuses("some", () -> furnished(3), STATE, q -> q.binary());
        refuses("full", () -> full(3), STATE, q -> q.binary());
    }

    private static void binaryOfLastOnes() {
        Polymorphium p = house(2);
        for (int i = 0; i < 5; i++) {
            p.operation(3);
        }
        due("first places bring no more", p.binary(), 1 << 10 | 1 << 12);
        operation(p, 3, "00000001");
        due("the last operation counts", p.binary(), 1 << 10 | 1 << 12 | 1 << 8);
        Polymorphium q = house(2);
        operation(q, 2, "0000");
        for (int i = 0; i < 5; i++) {
            q.operation(1);
        }
        due("the first one counts", q.binary(), 1 << 10 | 1 << 12 | 1);
    }

    private static void kept() {
        says(16, "Returns how many of all relations with some places all operations keep.");
        due("by no operations all", house(2).kept(1) + " " + house(2).kept(2), "4 16");
        due("by no operations all of 3", house(3).kept(1) + " " + house(3).kept(2), "8 512");
        due("by the first place all of 3", withOperation(3, 3, "").kept(2), 512);
        Polymorphium p = withOperation(2, 1, "10");
        operation(p, 2, "0001");
        operation(p, 1, "00");
        due("none, all, and like values", p.kept(2), 3);
        due("none and all", p.kept(1), 2);
        due("AFFINE: none, points, lines and all", ofMade(2, AFFINE).kept(2), 1 + 4 + 6 + 1);
        due("AFFINE of 3", ofMade(3, AFFINE).kept(2), 1 + 9 + 12 + 1);
        due("MIDDLE keeps any", ofMade(2, MIDDLE).kept(2), 16);
        due("MIDDLE of 3", ofMade(3, MIDDLE).kept(2), 289);
        // The value on the first place, but for one point: 2, 1, 0 and the like need three tuples.
        for (int[] odd : new int[][] {{5, 1, 218}, {7, 0, 218}, {11, 0, 218}, {21, 1, 218}, {0, 2, 116}, {13, 2, 116},
                {26, 0, 116}}) {
            Polymorphium q = withOperation(3, 3, "");
            q.answers(0, odd[0], odd[1]);
            due("but for the point " + odd[0], q.kept(2), odd[2]);
        }
        Polymorphium q = house(3);
        for (int i = 0; i < 5; i++) {
            q.operation(1 + i % 3);
        }
        operation(q, 1, "000");
        due("the last operation counts", q.kept(1), 1 + 4);
        due("the last operation counts for two places", q.kept(2), 1 + 256);
        says(16, "`places`: 1 or 2");
        due("the least", withOperation(3, 1, "222").kept(1), 5);
        due("the greatest", withOperation(3, 1, "222").kept(2), 257);
        says(16, "Throws `IllegalArgumentException` if places is out of range");
        for (int d : BOTH) {
            refusesAll("a new house", () -> house(d), ARGUMENT, outside(1, 2), (r, places) -> r.kept(places));
            refusesAll("some", () -> furnished(d), ARGUMENT, outside(1, 2), (r, places) -> r.kept(places));
            refusesAll("full", () -> full(d), ARGUMENT, outside(1, 2), (r, places) -> r.kept(places));
        }
    }
}
