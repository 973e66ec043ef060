/** Values and relations, sentence by sentence: the terms of them, and the promises 1 to 5. */
final class RelationEdges extends Checks {
    private RelationEdges() { }

    static void check() {
        terms();
        aNewHouse();
        values();
        relation();
        places();
        tuple();
        refusedTuples();
        ofRelation();
        refusedOfRelation();
    }

    private static void terms() {
        says(0, "There are d values, 0 to d less 1;");
        for (int d : BOTH) {
            Polymorphium p = house(d);
            p.operation(1);
            due("the least of " + d, p.answers(0, 0, 0), 0);
            due("the greatest of " + d, p.answers(0, 0, d - 1), 0);
            due("it is one then", p.answers(0, 0, 0), d - 1);
            due("all of them", p.left(0), (1 << d) - 1);
            refusesAll("value", () -> furnished(d), ARGUMENT, outside(0, d - 1), (q, value) -> q.answers(0, 0, value));
        }
        says(0, "d is 2 or 3.");
        due("2", house(2).values(2), 2);
        due("3", house(3).values(2), 3);
        says(0, "Relations are numbered from 0, at most 8;");
        for (int d : BOTH) {
            Polymorphium p = house(d);
            for (int number = 0; number < 8; number++) {
                due("number", p.relation(1 + number % 2), number);
            }
            due("the ninth", outcome(() -> p.relation(1)), STATE);
            due("the first is there", p.ofRelation(0, 0), 1);
            due("the last is there", p.ofRelation(7, 0), 2);
        }
        says(0, "a relation has some places, 1 to 3 if d is 2, 1 or 2 if d is 3, and a set of tuples.");
        for (int d : BOTH) {
            due("one place", outcome(() -> house(d).relation(1)), 0);
            due("the most places", outcome(() -> house(d).relation(most(d))), 0);
            due("no places", outcome(() -> house(d).relation(0)), ARGUMENT);
            due("one place more", outcome(() -> house(d).relation(most(d) + 1)), ARGUMENT);
        }
        codesOfTuples();
        says(0, "All relations together are the template.");
        for (int d : BOTH) {
            due("none of them", house(d).ends(), d == 2 ? 4 : 27);
            for (int last = 0; last < 8; last++) {
                Polymorphium p = house(d);
                fillRelations(p);
                p.tuple(last, 0, true);
                due("with the number " + last + " that counts", p.ends(), d == 2 ? 2 : 9);
            }
        }
    }

    private static void codesOfTuples() {
        says(0, "A tuple has a value on each place, and a code: the value on the first place, d times that on the "
                + "second one, and d times d times that on the third one, together.");
        for (int d : BOTH) {
            for (int places = 1; places <= most(d); places++) {
                for (int code = 0; code < power(d, places); code++) {
                    Polymorphium p = house(d);
                    relation(p, places, code);
                    p.instance(3);
                    p.constrain(0, 0, places > 1 ? 1 : NONE, places > 2 ? 2 : NONE);
                    due("first place of " + code, p.left(0), 1 << code % d);
                    due("second place of " + code, p.left(1), places > 1 ? 1 << code / d % d : (1 << d) - 1);
                    due("third place of " + code, p.left(2), places > 2 ? 1 << code / d / d : (1 << d) - 1);
                }
            }
        }
        says(0, "A set of tuples is told as bits, that of the code 0 lowest.");
        for (int d : BOTH) {
            for (int places = 1; places <= most(d); places++) {
                Polymorphium p = house(d);
                p.relation(places);
                due("empty", p.ofRelation(0, 1), 0);
                for (int code = 0; code < power(d, places); code++) {
                    p.tuple(0, code, true);
                    due("up to the code " + code, p.ofRelation(0, 1), (2 << code) - 1);
                }
            }
        }
    }

    private static void aNewHouse() {
        says(1, "Creates a house with 2 values");
        due("how many", new Polymorphium().values(3), 2);
        due("of the variable", new Polymorphium().left(0), 3);
        says(1, "without relations and operations;");
        Polymorphium p = new Polymorphium();
        due("no relation", outcome(() -> p.ofRelation(0, 0)), INDEX);
        due("no operation", outcome(() -> p.code(0)), INDEX);
        due("the first relation", p.relation(1), 0);
        due("the first operation", p.operation(1), 0);
        says(1, "the instance has 1 variable and no constraints;");
        Polymorphium q = new Polymorphium();
        due("the one variable", q.left(0), 3);
        due("no second one", outcome(() -> q.left(1)), INDEX);
        due("both values solve it", q.solutions(), 2);
        due("no constraints", q.instance(1), 0);
        says(1, "the tape is empty.");
        due("its fault", new Polymorphium().fault(), 0);
        due("its characters", new Polymorphium().wipe(), 0);
    }

    private static void values() {
        says(2, "Begins anew, as at first, with some values;");
        for (int from : BOTH) {
            for (int to : BOTH) {
                Polymorphium p = full(from);
                p.wipe();
                p.values(to);
                due("from " + from + " to " + to, state(p), state(house(to)));
                Polymorphium q = full(from);
                q.wipe();
                q.values(to);
                due("furnished from " + from + " to " + to, state(furnishedAnew(q)), state(furnishedAnew(house(to))));
            }
        }
        says(2, "the tape stays.");
        for (int d : BOTH) {
            Polymorphium p = full(d);
            p.values(5 - d);
            due("a full one", p.wipe(), 60);
            Polymorphium q = houseWithTape(5 - d, "ab:a=b");
            q.values(d);
            due("as it is typed", q.ofRelation(q.define(), 1), d == 2 ? 1 + 8 : 1 + 16 + 256);
            Polymorphium r = house(5 - d);
            r.values(d);
            due("an empty one", r.wipe(), 0);
        }
        says(2, "`many`: 2 or 3");
        due("the least", outcome(() -> house(3).values(2)), 3);
        due("the greatest", outcome(() -> house(2).values(3)), 2);
        says(2, "Returns how many there were.");
        for (int from : BOTH) {
            for (int to : BOTH) {
                due("from " + from + " to " + to, house(from).values(to), from);
            }
        }
        says(2, "Throws `IllegalArgumentException` if many is out of range");
        refusesAll("a new house", Polymorphium::new, ARGUMENT, outside(2, 3), (p, many) -> p.values(many));
        for (int d : BOTH) {
            refusesAll("full, with " + d, () -> full(d), ARGUMENT, outside(2, 3), (p, many) -> p.values(many));
        }
    }

    private static Polymorphium furnishedAnew(Polymorphium p) {
        p.relation(2);
        p.operation(1);
        p.operation(3);
        p.instance(2);
        return p;
    }

    private static void relation() {
        says(3, "Makes a relation without tuples.");
        for (int d : BOTH) {
            Polymorphium p = full(d);
            p.values(d);
            for (int places = 1; places <= most(d); places++) {
                int number = p.relation(places);
                due("its set", p.ofRelation(number, 1), 0);
                due("how many", p.ofRelation(number, 2), 0);
            }
        }
        says(3, "Returns its number.");
        Polymorphium p = houseWithTape(2, "a:a=a");
        due("the first", p.relation(1), 0);
        due("one that is defined", p.define(), 1);
        for (int number = 2; number < 8; number++) {
            due("behind it", p.relation(3), number);
        }
        says(3, "Throws `IllegalStateException` if there are 8");
        for (int d : BOTH) {
            for (int places = 1; places <= most(d); places++) {
                int width = places;
                refuses("of " + places + " places", () -> full(d), STATE, q -> q.relation(width));
            }
        }
        refuses("with a defined one", () -> {
            Polymorphium q = houseWithTape(2, "a:a=a");
            for (int i = 0; i < 7; i++) {
                q.relation(1);
            }
            q.define();
            return q;
        }, STATE, q -> q.relation(1));
    }

    private static void places() {
        says(3, "`places`: 1 to 3, if there are 2 values, 1 or 2, if there are 3");
        for (int d : BOTH) {
            for (int places = 1; places <= most(d); places++) {
                Polymorphium p = house(d);
                p.relation(places);
                int last = power(d, places) - 1;
                due("its places", p.ofRelation(0, 0), places);
                due("its last tuple", outcome(() -> p.tuple(0, last, true)), false);
                due("no more tuples", outcome(() -> p.tuple(0, last + 1, true)), INDEX);
            }
        }
        says(3, "Throws `IllegalArgumentException` if places is out of range");
        for (int d : BOTH) {
            int[] places = outside(1, most(d));
            refusesAll("a new house of " + d, () -> house(d), ARGUMENT, places, (p, many) -> p.relation(many));
            refusesAll("some of " + d, () -> furnished(d), ARGUMENT, places, (p, many) -> p.relation(many));
            // It is named first, so that it is thrown too if there are 8.
            refusesAll("full of " + d, () -> full(d), ARGUMENT, places, (p, many) -> p.relation(many));
        }
    }

    private static void tuple() {
        says(4, "Puts a tuple to a relation, or takes it away.");
        for (int d : BOTH) {
            for (int code = 0; code < power(d, most(d)); code++) {
                Polymorphium p = house(d);
                p.relation(most(d));
                p.tuple(0, code, true);
                due("put " + code, p.ofRelation(0, 1), 1 << code);
                p.tuple(0, code, false);
                due("took " + code, p.ofRelation(0, 1), 0);
            }
        }
        says(4, "`relation`: its number");
        for (int d : BOTH) {
            for (int number = 0; number < 8; number++) {
                Polymorphium p = house(d);
                fillRelations(p);
                p.tuple(number, 1, true);
                for (int other = 0; other < 8; other++) {
                    due(number + " alone", p.ofRelation(other, 1), other == number ? 2 : 0);
                }
            }
        }
        says(4, "`tuple`: the code of the tuple");
        for (int d : BOTH) {
            for (int places = 1; places <= most(d); places++) {
                Polymorphium p = house(d);
                p.relation(places);
                int last = power(d, places) - 1;
                due("the first", p.tuple(0, 0, true), false);
                due("the last", p.tuple(0, last, true), false);
                due("both", p.ofRelation(0, 1), 1 | 1 << last);
            }
        }
        says(4, "`is`: whether the relation has it then");
        Polymorphium p = house(2);
        relation(p, 2, 0, 3);
        p.tuple(0, 3, true);
        due("put once more", p.ofRelation(0, 1), 1 + 8);
        p.tuple(0, 2, false);
        due("what is not there taken away", p.ofRelation(0, 1), 1 + 8);
        says(4, "Returns whether it had it.");
        due("not there, put", p.tuple(0, 1, true), false);
        due("there, put", p.tuple(0, 1, true), true);
        due("there, taken away", p.tuple(0, 1, false), true);
        due("not there, taken away", p.tuple(0, 1, false), false);
    }

    private static void refusedTuples() {
        says(4, "Throws `IndexOutOfBoundsException` if there is no such relation, or tuple of so many places");
        refusesRelations((p, number) -> p.tuple(number, 0, true));
        refusesRelations((p, number) -> p.tuple(number, 0, false));
        for (int d : BOTH) {
            for (int places = 1; places <= most(d); places++) {
                int width = places;
                Maker empty = () -> {
                    Polymorphium p = house(d);
                    p.relation(width);
                    return p;
                };
                Maker all = () -> {
                    Polymorphium p = empty.make();
                    for (int code = 0; code < power(d, width); code++) {
                        p.tuple(0, code, true);
                    }
                    return p;
                };
                int[] tuples = outside(0, power(d, places) - 1);
                refusesAll("put to an empty one", empty, INDEX, tuples, (p, tuple) -> p.tuple(0, tuple, true));
                refusesAll("put to a full one", all, INDEX, tuples, (p, tuple) -> p.tuple(0, tuple, true));
                refusesAll("taken from a full one", all, INDEX, tuples, (p, tuple) -> p.tuple(0, tuple, false));
            }
        }
    }

    private static void ofRelation() {
        says(5, "Tells of a relation.");
        due("an empty one", told(house(2), 3), "3 0 0");
        due("a full one", told(house(2), 3, 0, 1, 2, 3, 4, 5, 6, 7), "3 255 8");
        due("a full one with 3", told(house(3), 2, 0, 1, 2, 3, 4, 5, 6, 7, 8), "2 511 9");
        says(5, "`relation`: its number");
        Polymorphium p = full(2);
        due("the first", p.ofRelation(0, 1), 3);
        due("the last", p.ofRelation(7, 0), 2);
        says(5, "`what`: 0 its places, 1 its set of tuples, 2 how many tuples it has");
        due("the least what", p.ofRelation(2, 0), 3);
        due("the one between", p.ofRelation(2, 1), 1 + 8 + 16 + 64);
        due("the greatest what", p.ofRelation(2, 2), 4);
        says(5, "Returns as told.");
        due("the first tuple alone", told(house(3), 1, 0), "1 1 1");
        due("the last tuple alone", told(house(3), 2, 8), "2 256 1");
    }

    private static String told(Polymorphium p, int places, int... tuples) {
        int number = relation(p, places, tuples);
        return p.ofRelation(number, 0) + " " + p.ofRelation(number, 1) + " " + p.ofRelation(number, 2);
    }

    private static void refusedOfRelation() {
        says(5, "Throws `IndexOutOfBoundsException` if there is no such relation");
        for (int what : new int[] {0, 1, 2, 3, -1, MIN, MAX}) {
            // It is named first, so that it is thrown too if what is out of range.
            refusesRelations((p, number) -> p.ofRelation(number, what));
        }
        says(5, "Throws `IllegalArgumentException` if what is out of range");
        for (int d : BOTH) {
            refusesAll("the first", () -> full(d), ARGUMENT, outside(0, 2), (p, what) -> p.ofRelation(0, what));
            refusesAll("the last", () -> full(d), ARGUMENT, outside(0, 2), (p, what) -> p.ofRelation(7, what));
        }
    }
}
