/** Templates, sentence by sentence: the terms of them, and the promises 17 to 20. */
final class TemplateEdges extends Checks {
    private static final int CONSTANT = Polymorphium.CONSTANT;
    private static final int SEMILATTICE = Polymorphium.SEMILATTICE;
    private static final int VOTE = Polymorphium.VOTE;
    private static final int SUM = Polymorphium.SUM;
    /** Of three values: unlike ones, as a set of pairs. */
    private static final int[] UNLIKE = {1, 2, 3, 5, 6, 7};

    private TemplateEdges() { }

    static void check() {
        constants();
        semilattices();
        votes();
        sums();
        first();
        firstOfAllRelations();
        emptyAndFullRelations();
        ends();
        core();
        around();
        aroundInOrder();
        aroundByAllOperations();
        refusedAround();
        aim();
    }

    /** A house with one relation. */
    private static Polymorphium of(int many, int places, int... tuples) {
        Polymorphium p = house(many);
        relation(p, places, tuples);
        return p;
    }

    /** A house of 3 values with some relations of two places. */
    private static Polymorphium withRelations(int[][] relations) {
        Polymorphium p = house(3);
        for (int[] tuples : relations) {
            relation(p, 2, tuples);
        }
        return p;
    }

    private static String firsts(Polymorphium p) {
        return p.first(CONSTANT) + " " + p.first(SEMILATTICE) + " " + p.first(VOTE) + " " + p.first(SUM);
    }

    // ---- promise 17

    private static void constants() {
        says(0, "Of some kinds a template is asked for an operation that keeps all its relations: CONSTANT: of one "
                + "place, that always answers the same;");
        due("0, of 2", of(2, 1, 0).first(CONSTANT), 0L);
        due("1, of 2", of(2, 1, 1).first(CONSTANT), 3L);
        due("0, of 3", of(3, 1, 0, 2).first(CONSTANT), 0L);
        due("1, of 3", of(3, 1, 1, 2).first(CONSTANT), 13L);
        due("2, of 3", of(3, 1, 2).first(CONSTANT), 26L);
        due("on all places", of(2, 3, 1, 6, 7).first(CONSTANT), 3L);
        due("on all places of 3", of(3, 2, 1, 2, 8).first(CONSTANT), 26L);
        due("none, of 2", of(2, 2, 1, 2).first(CONSTANT), -1L);
        due("none, of 3", of(3, 2, UNLIKE).first(CONSTANT), -1L);
    }

    private static void semilattices() {
        says(0, "SEMILATTICE: of two places, IDEMPOTENT, SYMMETRIC, and one that ASSOCIATES;");
        due("LEAST", of(2, 1, 0).first(SEMILATTICE), 8L);
        due("GREATEST", of(2, 2, 1, 2, 3).first(SEMILATTICE), 14L);
        due("none, of 2", of(2, 2, 1, 2).first(SEMILATTICE), -1L);
        due("the lowest of 3", house(3).first(SEMILATTICE), 13203L);
        Polymorphium order = of(3, 2, 0, 3, 4, 6, 7, 8);
        due("LEAST, by an order", order.first(SEMILATTICE), 15633L);
        // GREATEST keeps this too, but it is lower to answer 1 for any unlike values.
        relation(order, 2, 1, 2, 3, 4, 5, 6, 7, 8);
        due("1 for unlike values", order.first(SEMILATTICE), 16401L);
        due("none, of 3", of(3, 2, UNLIKE).first(SEMILATTICE), -1L);
        // Some relations for each of the nine semilattices, so that all lower ones break one of them.
        int[][][] templates = {{}, {{1, 2}}, {{2, 3}}, {{2, 4, 6}}, {{5, 6}}, {{5, 7, 8}}, {{1, 2, 6, 8}},
            {{1, 5, 7, 8}}, {{1, 3, 8}}};
        long[] codes = {13203, 15633, 15663, 16401, 17139, 18063, 19539, 19569, 19599};
        for (int i = 0; i < codes.length; i++) {
            due("of 3, the semilattice " + i, withRelations(templates[i]).first(SEMILATTICE), codes[i]);
        }
        // All nine semilattices of 3 values: six chains, and three in which two values meet in the third one.
        Polymorphium p = house(3);
        p.operation(2);
        int count = 0;
        for (int choice = 0; choice < 27; choice++) {
            int[] answers = {choice % 3, choice / 3 % 3, choice / 9};
            p.answers(0, 1, answers[0]);
            p.answers(0, 3, answers[0]);
            p.answers(0, 2, answers[1]);
            p.answers(0, 6, answers[1]);
            p.answers(0, 5, answers[2]);
            p.answers(0, 7, answers[2]);
            count += p.has(0, Polymorphium.IDEMPOTENT) && p.has(0, Polymorphium.SYMMETRIC)
                    && p.has(0, Polymorphium.ASSOCIATES) ? 1 : 0;
        }
        due("how many there are of 3", count, 9);
    }

    private static void votes() {
        says(0, "VOTE: a MAJORITY;");
        due("of 2 there is one", house(2).first(VOTE), 232L);
        due("none, of 2", of(2, 3, 1, 2, 4).first(VOTE), -1L);
        due("the lowest of 3", house(3).first(VOTE), 7570117242603L);
        due("none, of 3", of(3, 2, UNLIKE).first(VOTE), -1L);
        Polymorphium p = house(3);
        p.make(Polymorphium.MIDDLE);
        long middle = p.code(0);
        for (int point : new int[] {5, 7, 11, 15, 19, 21}) {
            p.answers(0, point, 0);
        }
        due("0 for three unlike ones", p.code(0), 7570117242603L);
        relation(p, 2, 0, 3, 4, 6, 7, 8);
        due("MIDDLE keeps an order, and no other does", p.first(VOTE), middle);
        int[][][] templates = {{{1, 2, 3}}, {{1, 2, 3, 5}}, {{1, 5, 6}, {2, 4, 6}}};
        due("1 for three unlike ones", withRelations(templates[0]).first(VOTE), 7581754385757L);
        due("2 for three unlike ones, the greatest", withRelations(templates[1]).first(VOTE), 7593391528911L);
        due("the first of three unlike ones", withRelations(templates[2]).first(VOTE), 7571279861037L);
        Polymorphium q = of(3, 1, 1, 2);
        due("two values, and 0 for three unlike ones all the same", q.first(VOTE), 7570117242603L);
    }

    private static void sums() {
        says(0, "SUM: the operation AFFINE alone.");
        due("of 2", house(2).first(SUM), 150L);
        due("of 3", house(3).first(SUM), 6008673505341L);
        due("a line", of(3, 2, 1, 3, 8).first(SUM), 6008673505341L);
        due("not two of three", of(3, 1, 0, 1).first(SUM), -1L);
        due("not an order", of(2, 2, 0, 2, 3).first(SUM), -1L);
        due("an uneven sum", of(2, 3, 1, 2, 4, 7).first(SUM), 150L);
    }

    private static void first() {
        says(17, "Returns the lowest code of an operation of a kind that keeps all relations.");
        due("without relations", firsts(house(2)), "0 8 232 150");
        due("without relations, of 3", firsts(house(3)), "0 13203 7570117242603 6008673505341");
        for (int d : BOTH) {
            for (int last = 0; last < 8; last++) {
                Polymorphium p = house(d);
                for (int i = 0; i < 8; i++) {
                    p.relation(i == last ? 2 : 1);
                }
                for (int tuple : d == 2 ? new int[] {1, 2} : UNLIKE) {
                    p.tuple(last, tuple, true);
                }
                due("no constant by " + last, p.first(CONSTANT), -1L);
                due("no semilattice by " + last, p.first(SEMILATTICE), -1L);
                due("a vote by " + last, p.first(VOTE), d == 2 ? 232L : -1L);
                due("a sum by " + last, p.first(SUM), d == 2 ? 150L : -1L);
            }
        }
        says(17, "`kind`: CONSTANT to SUM");
        due("the least", house(2).first(CONSTANT), 0L);
        due("the greatest", house(2).first(SUM), 150L);
        says(17, "Returns the code;");
        due("a code that is no int", house(3).first(VOTE), 7570117242603L);
        says(17, "NONE if there is none.");
        Polymorphium p = of(2, 3, 1, 2, 4);
        due("of no kind", firsts(p), "-1 -1 -1 -1");
        due("of no kind, with 3", firsts(of(3, 2, UNLIKE)), "-1 -1 -1 -1");
        says(17, "Throws `IllegalArgumentException` if kind is out of range");
        for (int d : BOTH) {
            refusesAll("a new house", () -> house(d), ARGUMENT, outside(CONSTANT, SUM), (q, kind) -> q.first(kind));
            refusesAll("some", () -> furnished(d), ARGUMENT, outside(CONSTANT, SUM), (q, kind) -> q.first(kind));
            refusesAll("full", () -> full(d), ARGUMENT, outside(CONSTANT, SUM), (q, kind) -> q.first(kind));
        }
    }

    /** With two values there are few operations of each kind, so that it is seen which of them keeps what. */
    private static void firstOfAllRelations() {
        says(17, "Returns the lowest code of an operation of a kind that keeps all relations.");
        for (int places = 1; places <= 3; places++) {
            for (int set = 0; set < 1 << (1 << places); set++) {
                Polymorphium p = house(2);
                relationOf(p, places, set);
                for (int what = Polymorphium.LEAST; what <= Polymorphium.AFFINE; what++) {
                    p.make(what);
                }
                boolean isBoth = (set >> (1 << places) - 1 & 1) != 0;
                long constant = set == 0 || (set & 1) != 0 ? 0 : isBoth ? 3 : -1;
                long semilattice = p.keeps(0, 0) ? 8 : p.keeps(1, 0) ? 14 : -1;
                due("of " + places + " places, " + set, firsts(p), constant + " " + semilattice + " "
                        + (p.keeps(2, 0) ? 232 : -1) + " " + (p.keeps(3, 0) ? 150 : -1));
            }
        }
    }

    private static int relationOf(Polymorphium p, int places, int set) {
        int number = p.relation(places);
        for (int tuple = 0; tuple < 9; tuple++) {
            if ((set >> tuple & 1) != 0) {
                p.tuple(number, tuple, true);
            }
        }
        return number;
    }

    /** Any operation keeps a relation that is empty or full, of any number of places. */
    private static void emptyAndFullRelations() {
        says(17, "Returns the lowest code of an operation of a kind that keeps all relations.");
        for (int d : BOTH) {
            for (int places = 1; places <= most(d); places++) {
                Polymorphium p = of(d, places);
                due("an empty one", firsts(p), firsts(house(d)));
                due("its ends", p.ends(), d == 2 ? 4 : 27);
                for (int tuple = 0; tuple < power(d, places); tuple++) {
                    p.tuple(0, tuple, true);
                }
                due("a full one", firsts(p), firsts(house(d)));
                due("the ends of a full one", p.ends(), d == 2 ? 4 : 27);
            }
        }
    }

    // ---- promises 18 and 19

    private static void ends() {
        says(0, "An endomorphism is an operation of one place that keeps all relations of the template.");
        due("an order", of(2, 2, 0, 2, 3).ends(), 3);
        due("two relations", endsOfTwo(), 1);
        says(18, "Returns how many endomorphisms the template has.");
        due("all of 2", house(2).ends(), 4);
        due("all of 3", house(3).ends(), 27);
        Polymorphium p = house(3);
        relation(p, 1, 0);
        relation(p, 1, 1);
        relation(p, 1, 2);
        due("the value itself is always one", p.ends(), 1);
        due("those that change places", of(3, 2, UNLIKE).ends(), 6);
    }

    private static int endsOfTwo() {
        Polymorphium p = of(2, 2, 0, 2, 3);
        relation(p, 2, 1, 2);
        return p.ends();
    }

    private static void core() {
        says(0, "The core has as many values as the fewest that an endomorphism answers.");
        due("one of 2", house(2).core(), 1);
        due("one of 3", house(3).core(), 1);
        for (int d : BOTH) {
            for (int value = 0; value < d; value++) {
                due(value + " alone, of " + d, of(d, 1, value).core(), 1);
            }
        }
        due("two of 2", of(2, 2, 1, 2).core(), 2);
        due("two of 3", of(3, 2, 1, 3, 5, 7).core(), 2);
        due("two of 3, and the first alone is bound", of(3, 2, 1, 3).core(), 2);
        due("three of 3", of(3, 2, UNLIKE).core(), 3);
        says(19, "Returns how many values the core has.");
        due("the least", of(3, 1, 2).core(), 1);
        due("the greatest", of(3, 2, 1, 5, 6).core(), 3);
        due("of empty relations", of(3, 2).core(), 1);
    }

    // ---- promise 20

    private static void around() {
        says(0, "The least relation around the tuples of a relation that can be defined by the other ones has just "
                + "the tuples that come by applying an operation of as many places as these are, that keeps all "
                + "other relations of the template, to them, in the order of their codes, rising;");
        for (int d : BOTH) {
            int widest = most(d);
            due("one tuple, anything", of(d, 1, 0).around(0), (1 << d) - 1);
            due("like values stay like", of(d, widest, 0).around(0), d == 2 ? 1 + 128 : 1 + 16 + 256);
            Polymorphium p = of(d, widest, 0);
            for (int value = 0; value < d; value++) {
                relation(p, 1, value);
            }
            due("nothing comes to it, if all values stay", p.around(0), 1);
            due("the last one alone", p.around(d), d == 2 ? 3 : 7);
        }
        Polymorphium p = of(2, 1, 0);
        due("the relation itself does not bind", p.around(0), 3);
        relation(p, 1, 0);
        due("one that is the same does", p.around(0), 1);
        for (int last = 1; last < 8; last++) {
            Polymorphium q = of(2, 1, 0);
            for (int i = 1; i < 8; i++) {
                relation(q, 1, i == last ? new int[] {0} : new int[0]);
            }
            due("the relation " + last + " binds", q.around(0), 1);
        }
        says(0, "it is empty, if there are none.");
        for (int d : BOTH) {
            for (int places = 1; places <= most(d); places++) {
                Polymorphium q = of(d, places);
                due("alone", q.around(0), 0);
                relation(q, 2, 1, 2);
                relation(q, 1);
                due("with others", q.around(0), 0);
                due("so is the last of them", q.around(2), 0);
            }
        }
    }

    private static void aroundInOrder() {
        says(20, "Returns the set of tuples of the least relation around the tuples of a relation that can be "
                + "defined by the other ones.");
        // Told in falling order, the tuples are the same set.
        Polymorphium p = of(2, 2, 2, 1);
        relation(p, 2, 0, 2, 3);
        due("that which keeps an order, of 0, 1 and 1, 0", p.around(0), 15);
        p.tuple(0, 1, false);
        p.tuple(0, 0, true);
        due("of 0, 0 and 0, 1: never 1, 0", p.around(0), 1 + 4 + 8);
        Polymorphium q = of(2, 3, 6, 5, 3);
        due("three tuples, any answers for three points", q.around(0), 255);
        relation(q, 3, 1, 2, 4, 7);
        due("three points are still free", q.around(0), 255);
        q.tuple(0, 6, false);
        q.tuple(0, 5, false);
        q.tuple(0, 0, true);
        // These, and by 1 alone and by the sum of 1 and both: 1, 1, 1 and 0, 0, 1.
        due("of 0, 0, 0 and 1, 1, 0", q.around(0), 1 + 8 + 16 + 128);
        Polymorphium r = of(3, 2, 8, 0);
        due("all on like places", r.around(0), 1 + 16 + 256);
        relation(r, 1, 0, 2);
        due("two of them", r.around(0), 1 + 256);
        due("full", of(3, 2, 1, 3).around(0), 511);
    }

    /** All operations of two places with two values are tried on each relation of three places. */
    private static void aroundByAllOperations() {
        says(20, "Returns the set of tuples of the least relation around the tuples of a relation that can be "
                + "defined by the other ones.");
        for (int set = 0; set < 256; set++) {
            int due = 0;
            for (int code = 0; code < 16; code++) {
                Polymorphium p = house(2);
                relationOf(p, 3, set);
                operation(p, 2, "" + (code & 1) + (code >> 1 & 1) + (code >> 2 & 1) + (code >> 3));
                if (p.keeps(0, 0)) {
                    // The tuples 1, 0, 0 and 0, 1, 1 make the points 1, 2 and 2.
                    due |= 1 << (code >> 1 & 1) + 6 * (code >> 2 & 1);
                }
            }
            Polymorphium p = house(2);
            relationOf(p, 3, set);
            relation(p, 3, 1, 6);
            due("by the set " + set, p.around(1), due);
        }
    }

    private static void refusedAround() {
        says(20, "`relation`: its number");
        Polymorphium p = house(2);
        for (int i = 0; i < 8; i++) {
            relation(p, 1, i == 0 || i == 7 ? 1 : 0);
        }
        due("the first", p.around(0), 2);
        due("the last", p.around(7), 2);
        due("one between", p.around(3), 1);
        says(20, "Throws `IndexOutOfBoundsException` if there is no such relation");
        refusesRelations((q, number) -> q.around(number));
        says(20, "Throws `IllegalStateException` if it has more than 3 tuples with 2 values, more than 2 with 3");
        due("three with 2", of(2, 3, 1, 2, 7).around(0), 255);
        due("two of one place with 2", of(2, 1, 0, 1).around(0), 3);
        due("two with 3", of(3, 2, 1, 8).around(0), 511);
        refuses("four with 2", () -> of(2, 3, 0, 1, 2, 7), STATE, q -> q.around(0));
        refuses("all of two places with 2", () -> of(2, 2, 0, 1, 2, 3), STATE, q -> q.around(0));
        refuses("all of three places with 2", () -> of(2, 3, 0, 1, 2, 3, 4, 5, 6, 7), STATE, q -> q.around(0));
        refuses("three with 3", () -> of(3, 2, 0, 1, 8), STATE, q -> q.around(0));
        refuses("all of one place with 3", () -> of(3, 1, 0, 1, 2), STATE, q -> q.around(0));
        refuses("all of two places with 3", () -> of(3, 2, 0, 1, 2, 3, 4, 5, 6, 7, 8), STATE, q -> q.around(0));
        refuses("in a full house", () -> full(2), STATE, q -> q.around(2));
        refuses("in a full house of 3", () -> full(3), STATE, q -> q.around(1));
        Polymorphium others = of(2, 1, 0);
        relation(others, 3, 0, 1, 2, 3, 4, 5);
        due("the others may have more", outcome(() -> others.around(0)), 1);
    }

    // ---- what all of this is for

    private static void aim() {
        says(0, "The aim is that what can be defined is kept by all that keeps the template, and that a template "
                + "with an operation of a kind is answered by what its kind needs.");
        String[] formulas = {"ab:0(a,c)&0(c,b)", "ab:0(a,b)&0(b,a)", "a:0(a,a)", "ab:0(c,a)&0(c,b)", "a:0(b,a)&0(c,b)",
            "ab:0(a,d)&1(d)&0(d,b)", "ba:a=c&0(c,b)", "a:1(b)&0(a,b)&0(b,a)"};
        int[][] templates = {{1, 2}, {0, 2, 3}, {1, 2, 3}, {0, 1, 3}, {2}, {0, 3}};
        for (int[] template : templates) {
            for (String formula : formulas) {
                Polymorphium p = of(2, 2, template);
                relation(p, 1, 1);
                for (int what = Polymorphium.LEAST; what <= Polymorphium.CYCLE; what++) {
                    p.make(what);
                }
                type(p, formula);
                int number = p.define();
                for (int f = 0; f < 5; f++) {
                    boolean isKept = p.keeps(f, 0) && p.keeps(f, 1);
                    due("an operation that keeps all keeps " + formula, !isKept || p.keeps(f, number), true);
                }
                if (p.first(SEMILATTICE) != NONE) {
                    due("values tell, with a semilattice", p.solutions() > 0, p.left(0) != 0);
                }
            }
        }
        answeredByKind();
    }

    /** With a semilattice, values that are left tell of a solution; with a vote, pairs do. */
    private static void answeredByKind() {
        for (int set = 0; set < 512; set++) {
            Polymorphium p = house(3);
            p.relation(2);
            for (int tuple = 0; tuple < 9; tuple++) {
                p.tuple(0, tuple, (set >> tuple & 1) != 0);
            }
            p.instance(4);
            for (int i = 0; i < 4; i++) {
                p.constrain(0, i, (i + 1 + set % 2) % 4, NONE);
            }
            p.constrain(0, 2, 0, NONE);
            boolean isSolved = p.solve() != NONE;
            if (p.first(SEMILATTICE) != NONE || p.first(CONSTANT) != NONE) {
                due("values, set " + set, p.left(0) != 0, isSolved);
            }
            if (p.first(VOTE) != NONE) {
                due("pairs, set " + set, p.pairs(0, 1) != 0, isSolved);
            }
        }
    }
}
