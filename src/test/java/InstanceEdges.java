/** Instances, sentence by sentence: the terms of them, and the promises 25 to 31. */
final class InstanceEdges extends Checks {
    private InstanceEdges() { }

    static void check() {
        sizes();
        codesOfSolutions();
        standing();
        valuesTakenAway();
        valuesStepByStep();
        valuesOneByOne();
        pairsAtFirst();
        pairsTakenAway();
        constraintsFollow();
        instance();
        constrain();
        constrainNone();
        refusedVariables();
        refusedPlaces();
        refusedSeventeenth();
        solutions();
        solve();
        left();
        pairs();
        refusedPairs();
    }

    /** Relations of one, two and three places, or of two once more with three values; then an instance. */
    private static Polymorphium of(int many, int variables) {
        Polymorphium p = house(many);
        relation(p, 1, 1);
        relation(p, 2, 1);
        relation(p, most(many), 1, 2, 4);
        p.instance(variables);
        return p;
    }

    /** A house with sixteen constraints, all but the last one of a full relation. */
    private static Polymorphium sixteenth(int many, int variables, int places, int tuple, int first, int second) {
        Polymorphium p = house(many);
        relation(p, 1, many == 2 ? new int[] {0, 1} : new int[] {0, 1, 2});
        relation(p, places, tuple);
        p.instance(variables);
        for (int i = 0; i < 15; i++) {
            p.constrain(0, i % variables, NONE, NONE);
        }
        p.constrain(1, first, second, NONE);
        return p;
    }

    private static String lefts(Polymorphium p, int variables) {
        StringBuilder lefts = new StringBuilder();
        for (int v = 0; v < variables; v++) {
            lefts.append(p.left(v));
        }
        return lefts.toString();
    }

    // ---- terms

    private static void sizes() {
        says(0, "An instance has 1 to 6 variables, numbered from 0, and constraints, at most 16, each of a relation "
                + "and a variable for each of its places, perhaps the same one several times.");
        for (int d : BOTH) {
            for (int variables = 1; variables <= 6; variables++) {
                Polymorphium p = house(d);
                due("variables", p.instance(variables), 0);
                due("the first", p.left(0), (1 << d) - 1);
                due("the last", p.left(variables - 1), (1 << d) - 1);
                int behind = variables;
                due("none behind it", outcome(() -> p.left(behind)), INDEX);
                due("all values", p.solutions(), power(d, variables));
            }
            for (int variables : new int[] {0, 7}) {
                due(variables + " variables", outcome(() -> house(d).instance(variables)), ARGUMENT);
            }
            Polymorphium p = of(d, 6);
            for (int i = 1; i <= 16; i++) {
                due("constraints", p.constrain(i % 2, i % 6, i % 2 == 0 ? NONE : 5, NONE), i);
            }
            due("one too many", outcome(() -> p.constrain(0, 0, NONE, NONE)), STATE);
        }
        Polymorphium p = of(2, 2);
        due("the same variable twice", p.constrain(1, 1, 1, NONE), 1);
        due("no tuple has like values", p.solutions(), 0);
        p.tuple(1, 0, true);
        due("0, 0 has", p.solutions() + " " + p.left(1), "2 1");
        p.instance(2);
        due("thrice", p.constrain(2, 0, 0, 0), 1);
        due("none has", p.solutions(), 0);
        p.tuple(2, 7, true);
        due("1, 1, 1 has", p.solutions() + " " + p.left(0), "2 2");
        p.instance(2);
        p.constrain(2, 1, 0, 1);
        due("on the first and the third place", p.solutions() + " " + p.solve(), "2 1");
    }

    private static void codesOfSolutions() {
        says(0, "A solution gives a value to each variable, so that the values of its variables are a tuple of its "
                + "relation, for each constraint;");
        Polymorphium p = of(2, 3);
        due("any values, if there is none", p.solutions(), 8);
        p.constrain(1, 0, 1, NONE);
        due("1, 0 and any", p.solutions(), 2);
        p.constrain(1, 2, 1, NONE);
        due("for each one", p.solutions(), 1);
        p.constrain(1, 1, 2, NONE);
        due("not for each one", p.solutions(), 0);
        says(0, "its code is the value of the variable 0, d times that of 1, d times d times that of 2, and so on, "
                + "together.");
        for (int d : BOTH) {
            for (int variable = 0; variable < 6; variable++) {
                for (int value = 0; value < d; value++) {
                    Polymorphium q = house(d);
                    relation(q, 1, value);
                    q.instance(6);
                    q.constrain(0, variable, NONE, NONE);
                    due(value + " at " + variable, q.solve(), value * power(d, variable));
                }
            }
            Polymorphium q = house(d);
            relation(q, 1, d - 1);
            q.instance(6);
            for (int variable = 0; variable < 6; variable++) {
                q.constrain(0, variable, NONE, NONE);
            }
            due("the greatest", q.solve(), d == 2 ? 63 : 728);
        }
    }

    private static void standing() {
        says(0, "A tuple can stand in a constraint, if it is one of its relation, and has the same value on places "
                + "with the same variable.");
        for (int d : BOTH) {
            for (int tuple = 0; tuple < d * d; tuple++) {
                Polymorphium p = house(d);
                relation(p, 2, tuple);
                p.instance(2);
                p.constrain(0, 1, 1, NONE);
                boolean stands = tuple % d == tuple / d;
                due("the tuple " + tuple + " on one variable", p.left(1), stands ? 1 << tuple % d : 0);
                due("its pairs", p.pairs(1, 0) == 0, !stands);
            }
        }
        for (int tuple = 0; tuple < 8; tuple++) {
            int x = tuple & 1;
            int y = tuple >> 1 & 1;
            int z = tuple >> 2;
            int[][] variables = {{0, 0, 1}, {0, 1, 0}, {1, 0, 0}, {0, 0, 0}};
            boolean[] stands = {x == y, x == z, y == z, x == y && y == z};
            int[] first = {x, x, y, x};
            for (int way = 0; way < 4; way++) {
                Polymorphium p = house(2);
                relation(p, 3, tuple);
                p.instance(2);
                p.constrain(0, variables[way][0], variables[way][1], variables[way][2]);
                due("the tuple " + tuple + ", way " + way, p.left(0), stands[way] ? 1 << first[way] : 0);
                due("its solutions", p.solutions() > 0, stands[way]);
            }
        }
    }

    private static void valuesTakenAway() {
        says(0, "Values are taken away thus, as long as something is: a value of a variable, if a constraint with "
                + "that variable has no tuple that can stand in it and has that value on the places of the variable, "
                + "and values that are left on all other places.");
        for (int d : BOTH) {
            int all = (1 << d) - 1;
            Polymorphium p = house(d);
            relation(p, 1, d - 1);
            p.relation(1);
            relation(p, 2, 0, 1 + d);
            p.instance(6);
            due("none without constraints", lefts(p, 6), ("" + all).repeat(6));
            p.constrain(0, 5, NONE, NONE);
            due("all but one", p.left(5), 1 << d - 1);
            p.constrain(1, 5, NONE, NONE);
            due("all", p.left(5), 0);
            due("others stay", lefts(p, 5), ("" + all).repeat(5));
            p.constrain(2, 4, 5, NONE);
            due("with none left there, none is left here", p.left(4), 0);
            p.constrain(2, 3, 2, NONE);
            due("on both places", p.left(3) + " " + p.left(2), "3 3");
        }
        // Each value of a variable goes with one of any other, but four variables cannot all be unlike.
        Polymorphium q = house(3);
        relation(q, 2, 1, 2, 3, 5, 6, 7);
        q.instance(4);
        for (int i = 0; i < 4; i++) {
            for (int j = 0; j < i; j++) {
                q.constrain(0, i, j, NONE);
            }
        }
        due("what has no solution may be left", lefts(q, 4) + " " + q.solve(), "7777 -1");
    }

    /** What goes at one end of a line takes the next with it, in whatever order the constraints were told. */
    private static void valuesStepByStep() {
        for (boolean isFalling : new boolean[] {false, true}) {
            Polymorphium p = house(3);
            relation(p, 2, 3, 6, 7);
            relation(p, 2, 0, 4, 8);
            p.instance(6);
            for (int i = 0; i < 3; i++) {
                int at = isFalling ? 2 - i : i;
                p.constrain(1, at, at + 1, NONE);
            }
            p.constrain(0, 3, 4, NONE);
            p.constrain(0, 4, 5, NONE);
            due("from the far end", lefts(p, 6), "111124");
            p.constrain(0, 5, 0, NONE);
            due("round a ring all go", lefts(p, 6), "000000");
        }
        Polymorphium q = house(3);
        relation(q, 2, 3, 6, 7);
        q.instance(6);
        for (int i = 5; i >= 0; i--) {
            q.constrain(0, i, (i + 1) % 6, NONE);
        }
        due("round a ring of six", lefts(q, 6), "000000");
        Polymorphium r = house(2);
        relation(r, 3, 6);
        r.instance(4);
        r.constrain(0, 1, 1, 2);
        due("with a variable twice, none stands", lefts(r, 4), "3003");
        r.tuple(0, 4, true);
        due("then one does", lefts(r, 4), "3123");
        r.constrain(0, 2, 3, 0);
        due("and the next goes by it", lefts(r, 4), "0000");
    }

    /**
     * 0 goes from one variable to the next, then 1 goes back; each constraint is told ahead of the one that it waits
     * for, so that looking at all of them once takes no more than one value away.
     */
    private static void valuesOneByOne() {
        Polymorphium p = house(3);
        relation(p, 1, 1, 2);
        int secondHas0ByFirst0 = relation(p, 2, 0, 3, 4, 5, 6, 7, 8);
        int secondHas1ByFirst0 = relation(p, 2, 0, 1, 2, 3, 6, 7, 8);
        int secondHas1ByFirst1 = relation(p, 2, 0, 1, 2, 4, 6, 7, 8);
        p.instance(6);
        for (int i = 0; i < 4; i++) {
            p.constrain(secondHas1ByFirst1, i + 1, i, NONE);
        }
        p.constrain(secondHas1ByFirst0, 5, 4, NONE);
        for (int i = 4; i >= 0; i--) {
            p.constrain(secondHas0ByFirst0, i, i + 1, NONE);
        }
        due("all, before the first goes", lefts(p, 6), "777777");
        p.constrain(0, 0, NONE, NONE);
        due("0 of all, and 1 of all but the last", lefts(p, 6), "444446");
    }

    private static void pairsAtFirst() {
        says(0, "Pairs of values of two unlike variables are left at first, if in each constraint a tuple can stand "
                + "that has these values on the places of these variables, if it has such places (in one with "
                + "neither of them, any tuple);");
        for (int d : BOTH) {
            int all = (1 << d * d) - 1;
            Polymorphium p = house(d);
            p.instance(2);
            due("all, without constraints", p.pairs(0, 1) + " " + p.pairs(1, 0), all + " " + all);
            relation(p, 2, 1);
            p.constrain(0, 0, 1, NONE);
            due("1, 0 of both", p.pairs(0, 1) + " " + p.pairs(1, 0), 2 + " " + (1 << d));
            p.instance(2);
            relation(p, 1, d - 1);
            p.constrain(1, 1, NONE, NONE);
            due("any and the last", p.pairs(0, 1), ((1 << d) - 1) << d * (d - 1));
            p.instance(3);
            p.constrain(1, 2, NONE, NONE);
            due("all, with a tuple elsewhere", p.pairs(0, 1), all);
            p.relation(1);
            p.constrain(2, 2, NONE, NONE);
            due("none, without a tuple elsewhere", p.pairs(0, 1), 0);
            p.instance(3);
            p.constrain(0, 2, 2, NONE);
            due("none, with no tuple that can stand elsewhere", p.pairs(1, 0), 0);
        }
        Polymorphium p = house(2);
        relation(p, 3, 1, 6);
        p.instance(4);
        p.constrain(0, 3, 1, 0);
        due("the first and the second place", p.pairs(3, 1), 2 + 4);
        due("the third and the first one", p.pairs(0, 3), 2 + 4);
        due("the second and the third one", p.pairs(1, 0), 1 + 8);
        due("two in no constraint but by the third", p.pairs(2, 0), 15);
    }

    private static void pairsTakenAway() {
        says(0, "then, as long as something is, a pair is taken away, if for some third variable there is no value "
                + "with which both, the first of the pair and it, and it and the second of the pair, are left, as "
                + "pairs of their variables.");
        Polymorphium p = house(2);
        relation(p, 2, 1, 2);
        p.instance(2);
        p.constrain(0, 0, 1, NONE);
        due("there is no third", p.pairs(0, 1), 2 + 4);
        p.instance(3);
        p.constrain(0, 0, 2, NONE);
        p.constrain(0, 2, 1, NONE);
        due("by the third", p.pairs(0, 1), 1 + 8);
        p.constrain(0, 1, 0, NONE);
        due("none round a ring of three", p.pairs(0, 1) + " " + p.pairs(2, 0), "0 0");
        for (int i = 0; i < 6; i++) {
            for (int j = 0; j < 6; j++) {
                for (int k = 0; k < 6; k++) {
                    if (i != j && i != k && j != k) {
                        Polymorphium q = house(2);
                        relation(q, 2, 1, 2);
                        q.instance(6);
                        q.constrain(0, i, k, NONE);
                        q.constrain(0, k, j, NONE);
                        due(i + " and " + j + ", by " + k, q.pairs(i, j), 1 + 8);
                    }
                }
            }
        }
        // A line of six: what is left of its ends comes step by step.
        for (int d : BOTH) {
            Polymorphium q = house(d);
            relation(q, 2, d == 2 ? new int[] {1, 2} : new int[] {1, 5, 6});
            q.instance(6);
            int[] line = {0, 2, 4, 5, 3, 1};
            for (int i = 0; i < 5; i++) {
                q.constrain(0, line[i], line[i + 1], NONE);
            }
            due("the ends of a line", q.pairs(0, 1), d == 2 ? 2 + 4 : 4 + 8 + 128);
            due("values alone do not tell", q.left(0), (1 << d) - 1);
            q.constrain(0, 1, 0, NONE);
            due("round a ring of six", q.pairs(0, 1), d == 2 ? 2 + 4 : 4 + 8 + 128);
        }
        Polymorphium r = house(3);
        relation(r, 2, 1, 2, 3, 5, 6, 7);
        r.instance(4);
        for (int i = 0; i < 4; i++) {
            for (int j = 0; j < i; j++) {
                r.constrain(0, i, j, NONE);
            }
        }
        due("what has no solution may be left", r.pairs(3, 0) + " " + r.solve(), "238 -1");
    }

    private static void constraintsFollow() {
        says(0, "Constraints stay as they are told;");
        Polymorphium p = of(2, 3);
        p.constrain(1, 0, 2, NONE);
        p.relation(2);
        type(p, "ab:a=b");
        p.define();
        p.make(Polymorphium.LEAST);
        due("others come", p.solutions() + " " + p.left(0) + " " + p.left(2), "2 2 1");
        due("the second behind it", p.constrain(0, 1, NONE, NONE), 2);
        due("both", p.solutions() + " " + p.solve(), "1 3");
        due("both stay", p.instance(3), 2);
        says(0, "what they ask follows their relations as these are now.");
        for (int d : BOTH) {
            Polymorphium q = house(d);
            q.relation(2);
            q.instance(2);
            q.constrain(0, 0, 1, NONE);
            due("nothing", q.solutions() + " " + q.solutionsAnew() + " " + q.solve(), "0 0 -1");
            due("nothing is left", q.left(0) + " " + q.pairs(0, 1), "0 0");
            q.tuple(0, 1, true);
            due("1, 0", q.solutions() + " " + q.solutionsAnew() + " " + q.solve(), "1 1 1");
            due("1, 0 is left", q.left(0) + " " + q.pairs(0, 1), "2 2");
            q.tuple(0, 1, false);
            q.tuple(0, d, true);
            due("0, 1", q.solutions() + " " + q.solutionsAnew() + " " + q.solve(), "1 1 " + d);
            due("0, 1 is left", q.left(0) + " " + q.pairs(0, 1), "1 " + (1 << d));
        }
    }

    // ---- promises 25 and 26

    private static void instance() {
        says(25, "Begins an instance without constraints.");
        for (int d : BOTH) {
            Polymorphium p = full(d);
            p.instance(6);
            due("all are gone", p.solutions(), power(d, 6));
            due("and do not come back", p.constrain(0, 0, NONE, NONE), 1);
            due("the tape stays", p.wipe(), 60);
            due("operations stay", p.code(0), d == 2 ? 8 : 15633);
            due("relations stay", p.ofRelation(1, 2), 3);
        }
        for (int d : BOTH) {
            Polymorphium p = of(d, 6);
            p.constrain(0, 5, NONE, NONE);
            due("1 at the last", p.solutions() + " " + p.solve(), power(d, 5) + " " + power(d, 5));
            p.instance(6);
            p.constrain(0, 0, NONE, NONE);
            due("then at the first", p.solutions() + " " + p.solve(), power(d, 5) + " 1");
        }
        says(25, "`variables`: 1 to 6");
        for (int d : BOTH) {
            Polymorphium p = house(d);
            p.instance(6);
            due("the greatest", p.solutions(), power(d, 6));
            p.instance(1);
            due("the least", p.solutions(), d);
        }
        says(25, "Returns how many constraints the one before had.");
        due("none", house(2).instance(6), 0);
        due("two", furnished(3).instance(1), 2);
        Polymorphium p = full(2);
        due("sixteen", p.instance(1), 16);
        due("none again", p.instance(1), 0);
        says(25, "Throws `IllegalArgumentException` if variables is out of range");
        for (int d : BOTH) {
            refusesAll("a new house", () -> house(d), ARGUMENT, outside(1, 6), (q, many) -> q.instance(many));
            refusesAll("some", () -> furnished(d), ARGUMENT, outside(1, 6), (q, many) -> q.instance(many));
            refusesAll("full", () -> full(d), ARGUMENT, outside(1, 6), (q, many) -> q.instance(many));
        }
    }

    private static void constrain() {
        says(26, "Adds a constraint.");
        for (int d : BOTH) {
            for (int variable = 0; variable < 6; variable++) {
                Polymorphium p = of(d, 6);
                p.constrain(0, variable, NONE, NONE);
                for (int other = 0; other < 6; other++) {
                    due("of " + variable, p.left(other), other == variable ? 2 : (1 << d) - 1);
                }
            }
        }
        says(26, "`relation`: the number of a relation");
        Polymorphium p = house(2);
        for (int i = 0; i < 8; i++) {
            relation(p, 1, i % 7 == 0 ? 1 : 0);
        }
        p.instance(3);
        p.constrain(0, 0, NONE, NONE);
        p.constrain(3, 1, NONE, NONE);
        p.constrain(7, 2, NONE, NONE);
        due("the first, one between and the last", lefts(p, 3), "212");
        says(26, "`first`: the variable on the first place");
        due("of three", placed(0), "1 1 2 4");
        says(26, "Returns how many there are then.");
        Polymorphium q = of(3, 1);
        for (int i = 1; i <= 16; i++) {
            due("one by one", q.constrain(0, 0, NONE, NONE), i);
        }
        q.instance(1);
        due("from one again", q.constrain(0, 0, NONE, NONE), 1);
        due("the sixteenth counts", sixteenth(2, 6, 1, 1, 5, NONE).solutions(), 32);
        due("the sixteenth counts anew", sixteenth(3, 6, 2, 8, 5, 4).solutionsAnew(), 81);
        due("the sixteenth is solved", sixteenth(2, 6, 2, 3, 5, 4).solve(), 48);
        due("the sixteenth takes values", sixteenth(3, 6, 2, 8, 5, 4).left(4), 4);
        due("the sixteenth takes pairs", sixteenth(2, 6, 2, 1, 5, 0).pairs(0, 5), 4);
    }

    /** What is solved if a relation with 1 on one place alone is told of 0, 1 and 2 in turns. */
    private static String placed(int shift) {
        StringBuilder codes = new StringBuilder().append(shift + 1);
        for (int place = 0; place < 3; place++) {
            Polymorphium p = house(2);
            relation(p, 3, 1 << place);
            p.instance(3);
            p.constrain(0, shift, (shift + 1) % 3, (shift + 2) % 3);
            codes.append(' ').append(p.solve());
        }
        return codes.toString();
    }

    private static void constrainNone() {
        says(26, "`second`: that on the second one;");
        due("in turns", placed(1), "2 2 4 1");
        says(26, "`third`: that on the third one;");
        due("in turns", placed(2), "3 4 1 2");
        says(26, "NONE if there is no such place");
        due("one place", outcome(() -> of(2, 3).constrain(0, 2, NONE, NONE)), 1);
        due("two places", outcome(() -> of(2, 3).constrain(1, 2, 0, NONE)), 1);
        due("three places", outcome(() -> of(2, 3).constrain(2, 2, 0, 1)), 1);
        due("one place of 3", outcome(() -> of(3, 3).constrain(0, 2, NONE, NONE)), 1);
        due("two places of 3", outcome(() -> of(3, 3).constrain(2, 2, 0, NONE)), 1);
    }

    private static void refusedVariables() {
        says(26, "Throws `IndexOutOfBoundsException` if there is no such relation or variable, but for NONE at any "
                + "place");
        int[][] others = {{0, NONE, NONE}, {0, 1, NONE}, {0, 1, 2}, {NONE, NONE, NONE}, {MIN, 0, 0}, {0, MAX, -2}};
        for (int[] at : others) {
            // It is named first, so that it is thrown too if the places are wrong, or if there are 16.
            refusesRelations((p, number) -> p.constrain(number, at[0], at[1], at[2]));
        }
        for (int d : BOTH) {
            for (int variables = 1; variables <= 6; variables++) {
                int many = variables;
                Maker some = () -> of(d, many);
                int[] wrong = {variables, -2, -3, 32, 256, 65536, MIN, MIN + 1, MAX, MAX - 255};
                for (int relation = 0; relation < 3; relation++) {
                    int number = relation;
                    refusesAll("the first", some, INDEX, wrong, (p, v) -> p.constrain(number, v, 0, 0));
                    refusesAll("the second", some, INDEX, wrong, (p, v) -> p.constrain(number, 0, v, 0));
                    refusesAll("the third", some, INDEX, wrong, (p, v) -> p.constrain(number, 0, 0, v));
                    refusesAll("the first, else NONE", some, INDEX, wrong, (p, v) -> p.constrain(number, v, -1, -1));
                    refusesAll("the second, else NONE", some, INDEX, wrong, (p, v) -> p.constrain(number, -1, v, -1));
                    refusesAll("the third, else NONE", some, INDEX, wrong, (p, v) -> p.constrain(number, -1, -1, v));
                }
            }
            int[] wrong = {6, -2, MIN, MAX};
            refusesAll("the first, of sixteen", () -> full(d), INDEX, wrong, (p, v) -> p.constrain(0, v, -1, -1));
            refusesAll("the second, of sixteen", () -> full(d), INDEX, wrong, (p, v) -> p.constrain(1, 0, v, -1));
            refusesAll("the third, of sixteen", () -> full(d), INDEX, wrong, (p, v) -> p.constrain(2, 0, 0, v));
        }
    }

    private static void refusedPlaces() {
        says(26, "Throws `IllegalArgumentException` if NONE is told for a place that there is, or anything else for "
                + "one that there is not");
        for (int d : BOTH) {
            for (int relation = 0; relation < 3; relation++) {
                int places = d == 3 && relation == 2 ? 2 : relation + 1;
                // Each choice of NONE or a variable, but for the one that the places ask.
                for (int choice = 0; choice < 8; choice++) {
                    if (choice != (1 << places) - 1) {
                        int number = relation;
                        int first = (choice & 1) != 0 ? 0 : NONE;
                        int second = (choice & 2) != 0 ? 2 : NONE;
                        int third = (choice & 4) != 0 ? 1 : NONE;
                        refuses("relation " + relation + ", choice " + choice, () -> of(d, 3), ARGUMENT,
                                p -> p.constrain(number, first, second, third));
                        // It is named before the number of constraints.
                        refuses("relation " + relation + " of a full house, choice " + choice, () -> full(d), ARGUMENT,
                                p -> p.constrain(number, first, second, third));
                    }
                }
            }
        }
    }

    private static void refusedSeventeenth() {
        says(26, "Throws `IllegalStateException` if there are 16");
        for (int d : BOTH) {
            refuses("one place", () -> full(d), STATE, p -> p.constrain(0, 5, NONE, NONE));
            refuses("two places", () -> full(d), STATE, p -> p.constrain(1, 0, 5, NONE));
            refuses("of the last relation", () -> full(d), STATE, p -> p.constrain(7, 0, 0, NONE));
            Polymorphium p = full(d);
            p.instance(6);
            due("a new instance has room", p.constrain(1, 0, 5, NONE), 1);
        }
        refuses("three places", () -> full(2), STATE, p -> p.constrain(2, 0, 5, 3));
    }

    // ---- promises 27 to 31

    private static void solutions() {
        for (int promise = 27; promise <= 28; promise++) {
            boolean isAnew = promise == 28;
            says(promise, isAnew ? "Returns the same, found by trying all values." : "Returns how many solutions the "
                    + "instance has.");
            for (int d : BOTH) {
                for (int variables = 1; variables <= 6; variables++) {
                    Polymorphium p = of(d, variables);
                    due("all, of " + variables, count(p, isAnew), power(d, variables));
                    p.constrain(0, variables - 1, NONE, NONE);
                    due("with the last one bound", count(p, isAnew), power(d, variables - 1));
                    p.constrain(0, 0, NONE, NONE);
                    due("with the first one too", count(p, isAnew), power(d, Math.max(0, variables - 2)));
                    p.tuple(0, 1, false);
                    due("none", count(p, isAnew), 0);
                }
                Polymorphium p = of(d, 6);
                for (int v = 0; v < 6; v++) {
                    p.constrain(0, v, NONE, NONE);
                }
                due("one alone", count(p, isAnew), 1);
            }
            Polymorphium p = of(2, 6);
            p.constrain(2, 0, 3, 5);
            p.constrain(2, 1, 4, 5);
            due("of three places", count(p, isAnew), (1 + 2 * 2) * 2);
        }
    }

    private static int count(Polymorphium p, boolean isAnew) {
        return isAnew ? p.solutionsAnew() : p.solutions();
    }

    private static void solve() {
        says(29, "Returns the lowest code of a solution;");
        for (int d : BOTH) {
            Polymorphium p = house(d);
            relation(p, 2, 1, d);
            p.instance(6);
            due("the least", p.solve(), 0);
            p.constrain(0, 0, 5, NONE);
            due("1, 0 is lower than 0, 1", p.solve(), 1);
            p.instance(6);
            p.constrain(0, 5, 0, NONE);
            due("so it is if they are told the other way", p.solve(), 1);
            p.constrain(0, 0, 4, NONE);
            due("the last one weighs most", p.solve(), 1);
            p.tuple(0, 1, false);
            p.tuple(0, d, false);
            p.tuple(0, d * d - 1, true);
            due("of the greatest values", p.solve(), (d - 1) * (1 + power(d, 4) + power(d, 5)));
        }
        for (int d : BOTH) {
            Polymorphium p = house(d);
            relation(p, 1, d - 1);
            for (int variables = 6; variables >= 1; variables--) {
                p.instance(variables);
                for (int v = 0; v < variables; v++) {
                    p.constrain(0, v, NONE, NONE);
                }
                due("the greatest of " + variables + ", behind more", p.solve(), power(d, variables) - 1);
            }
        }
        says(29, "NONE if there is none.");
        for (int d : BOTH) {
            Polymorphium p = of(d, 1);
            p.constrain(1, 0, 0, NONE);
            due("of one variable", p.solve(), NONE);
            due("of six", sixteenthOfNone(d).solve(), NONE);
        }
    }

    private static Polymorphium sixteenthOfNone(int many) {
        Polymorphium p = sixteenth(many, 6, 1, 0, 5, NONE);
        p.tuple(1, 0, false);
        return p;
    }

    private static void left() {
        says(30, "Returns the set of values that are left of a variable, as bits.");
        for (int d : BOTH) {
            Polymorphium p = of(d, 2);
            due("all", p.left(0), (1 << d) - 1);
            p.constrain(0, 0, NONE, NONE);
            for (int set = 0; set < 1 << d; set++) {
                for (int value = 0; value < d; value++) {
                    p.tuple(0, value, (set >> value & 1) != 0);
                }
                due("these alone", p.left(0), set);
            }
            due("none, by the sixteenth", sixteenthOfNone(d).left(5), 0);
            due("all others", sixteenthOfNone(d).left(4), (1 << d) - 1);
        }
        says(30, "`variable`: its number");
        for (int variables = 1; variables <= 6; variables++) {
            Polymorphium p = of(2, variables);
            p.constrain(0, variables - 1, NONE, NONE);
            due("the first", p.left(0), variables == 1 ? 2 : 3);
            due("the last", p.left(variables - 1), 2);
        }
        says(30, "Throws `IndexOutOfBoundsException` if there is no such variable");
        for (int d : BOTH) {
            for (int variables = 1; variables <= 6; variables++) {
                int many = variables;
                refusesAll("of " + variables, () -> of(d, many), INDEX, outside(0, variables - 1), (p, v) -> p.left(v));
            }
            refusesAll("full", () -> full(d), INDEX, outside(0, 5), (p, v) -> p.left(v));
            refusesAll("new", () -> house(d), INDEX, outside(0, 0), (p, v) -> p.left(v));
        }
    }

    private static void pairs() {
        says(31, "Returns the set of pairs of values that are left of two variables, as bits: the first value and d "
                + "times the second one.");
        for (int d : BOTH) {
            for (int tuple = 0; tuple < d * d; tuple++) {
                Polymorphium p = house(d);
                relation(p, 2, tuple);
                p.instance(6);
                p.constrain(0, 5, 0, NONE);
                due("the tuple " + tuple, p.pairs(5, 0), 1 << tuple);
                due("turned", p.pairs(0, 5), 1 << tuple / d + d * (tuple % d));
                due("all others", p.pairs(1, 4), (1 << d * d) - 1);
            }
            due("none, by the sixteenth", sixteenthOfNone(d).pairs(0, 1), 0);
        }
        says(31, "`first`: a variable");
        for (int v = 0; v < 6; v++) {
            Polymorphium p = of(3, 6);
            p.constrain(0, v, NONE, NONE);
            due("it is 1 alone", p.pairs(v, (v + 1) % 6), 2 + 16 + 128);
        }
        says(31, "`second`: another one");
        for (int v = 0; v < 6; v++) {
            Polymorphium p = of(3, 6);
            p.constrain(0, v, NONE, NONE);
            due("it is 1 alone", p.pairs((v + 5) % 6, v), 8 + 16 + 32);
        }
    }

    private static void refusedPairs() {
        says(31, "Throws `IndexOutOfBoundsException` if there is no such variable, of either");
        for (int d : BOTH) {
            for (int variables = 1; variables <= 6; variables++) {
                int many = variables;
                Maker some = () -> of(d, many);
                int[] wrong = outside(0, variables - 1);
                refusesAll("the first", some, INDEX, wrong, (p, v) -> p.pairs(v, 0));
                refusesAll("the second", some, INDEX, wrong, (p, v) -> p.pairs(many - 1, v));
                // It is named first, so that it is thrown too if both are the same.
                refusesAll("both", some, INDEX, wrong, (p, v) -> p.pairs(v, v));
            }
            refuses("the least and the greatest", () -> full(d), INDEX, p -> p.pairs(MIN, MAX));
        }
        says(31, "Throws `IllegalArgumentException` if both are the same");
        for (int d : BOTH) {
            refuses("the only one", () -> house(d), ARGUMENT, p -> p.pairs(0, 0));
            refusesAll("full", () -> full(d), ARGUMENT, new int[] {0, 1, 2, 3, 4, 5}, (p, v) -> p.pairs(v, v));
        }
    }
}
