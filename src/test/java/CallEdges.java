import java.util.ArrayList;
import java.util.List;
import java.util.TreeSet;

/** What the document says of all calls: what they change, which exception comes first, how many there may be. */
final class CallEdges extends Checks {
    private CallEdges() { }

    static void check() {
        stateShowsEachChange();
        changes();
        questions();
        questionsAnew();
        refusals();
        firstExceptions();
        fiveHundredAndTwelve();
        fiveHundredAndTwelveRefused();
        dearestCalls();
    }

    /** All that is asked, of a furnished or a full house. */
    private static List<Question> questionsOf(int many) {
        List<Question> questions = new ArrayList<>(List.of(p -> p.ofRelation(0, 0), p -> p.ofRelation(1, 1),
                p -> p.ofRelation(2, 2), p -> p.code(0), p -> p.keeps(0, 1), p -> p.breaks(0, 1), p -> p.breaks(1, 2),
                p -> p.closed(0, 1), p -> p.closed(1, 2), Polymorphium::monoid, p -> p.kept(1), p -> p.kept(2),
                Polymorphium::ends, Polymorphium::core, p -> p.around(0), p -> p.around(0), Polymorphium::fault,
                Polymorphium::solutions, Polymorphium::solutionsAnew, Polymorphium::solve, p -> p.left(0),
                p -> p.left(2), p -> p.pairs(0, 2), p -> p.pairs(2, 1)));
        for (int i = 0; i < 5; i++) {
            int number = i;
            questions.add(p -> p.has(2, number));
            if (i < 4) {
                questions.add(p -> p.first(number));
            }
        }
        if (many == 2) {
            questions.add(Polymorphium::binary);
        }
        return questions;
    }

    // ---- what calls change

    /** The tests of what a refused call changes rest on the state of a house, which must show any change. */
    private static void stateShowsEachChange() {
        says(0, "Values, tuples, operations, characters and instances come by calls;");
        for (int d : BOTH) {
            List<Question> changes = List.of(p -> p.values(5 - d), p -> p.relation(1), p -> p.relation(2),
                    p -> p.tuple(0, 1, true), p -> p.tuple(1, 1, false), p -> p.operation(1), p -> p.operation(2),
                    p -> p.operation(3), p -> p.make(1), p -> p.make(3), p -> p.answers(0, 0, 1),
                    p -> p.answers(2, d * d * d - 1, 0), p -> p.type('&', 1), p -> p.type('a', 1), p -> p.wipe(),
                    p -> p.define(), p -> p.instance(2), p -> p.instance(3), p -> p.constrain(0, 0, NONE, NONE),
                    p -> p.constrain(1, 0, 1, NONE));
            TreeSet<String> states = new TreeSet<>();
            states.add(state(furnished(d)));
            for (Question change : changes) {
                Polymorphium p = furnished(d);
                change.of(p);
                states.add(state(p));
            }
            due("each change shows", states.size(), changes.size() + 1);
        }
    }

    private static void changes() {
        says(0, "Values, tuples, operations, characters and instances come by calls;");
        for (int d : BOTH) {
            // Whatever was asked between them, the calls of two houses bring the same.
            Polymorphium p = furnished(d);
            for (Question question : questionsOf(d)) {
                outcome(() -> question.of(p));
            }
            p.tuple(1, 1, false);
            p.relation(2);
            p.make(Polymorphium.AFFINE);
            p.constrain(1, 2, 0, NONE);
            Polymorphium q = furnished(d);
            q.tuple(1, 1, false);
            q.relation(2);
            q.make(Polymorphium.AFFINE);
            q.constrain(1, 2, 0, NONE);
            due("after all questions", state(p), state(q));
        }
    }

    /** What was asked of a house before leaves nothing behind when it begins anew, or with a smaller instance. */
    private static void questionsAnew() {
        says(0, "all else is asked, and changes nothing.");
        for (int from : BOTH) {
            for (int to : BOTH) {
                Polymorphium p = full(from);
                questionsOf(from).forEach(question -> outcome(() -> question.of(p)));
                p.wipe();
                p.values(to);
                due("new, from " + from + " to " + to, answers(p, to), answers(house(to), to));
                due("furnished, from " + from + " to " + to, answers(furnish(p, to), to), answers(furnished(to), to));
            }
            Polymorphium unlike = house(from);
            for (int i = 0; i < 8; i++) {
                relation(unlike, 2, from == 2 ? new int[] {1} : new int[] {1, 2, 3, 5, 6, 7});
            }
            unlike.values(from);
            due("relations that are gone, " + from, answers(unlike, from), answers(house(from), from));
            Polymorphium one = house(from);
            relation(unlike, 1, 1);
            relation(one, 1, 1);
            due("all but one are gone, " + from, answers(unlike, from), answers(one, from));
            for (int variables = 1; variables <= 6; variables++) {
                Polymorphium p = fullOfLast(from);
                answers(p, from);
                Polymorphium q = fullOfLast(from);
                p.instance(variables);
                q.instance(variables);
                p.constrain(1, variables - 1, 0, NONE);
                q.constrain(1, variables - 1, 0, NONE);
                due("an instance of " + variables, answers(p, from), answers(q, from));
            }
        }
    }

    /** A full house in which the greatest value alone solves all variables. */
    private static Polymorphium fullOfLast(int many) {
        Polymorphium p = full(many);
        for (int tuple = 0; tuple < many * many; tuple++) {
            p.tuple(1, tuple, tuple == many * many - 1);
        }
        return p;
    }

    private static String answers(Polymorphium p, int many) {
        StringBuilder answers = new StringBuilder();
        for (Question question : questionsOf(many)) {
            answers.append(outcome(() -> question.of(p))).append(' ');
        }
        return answers.toString();
    }

    private static void questions() {
        says(0, "all else is asked, and changes nothing.");
        for (int d : BOTH) {
            for (Maker maker : new Maker[] {() -> house(d), () -> furnished(d), () -> full(d)}) {
                String before = state(maker.make());
                int number = 0;
                for (Question question : questionsOf(d)) {
                    Polymorphium p = maker.make();
                    Object answer = outcome(() -> question.of(p));
                    due("asked again, " + number, outcome(() -> question.of(p)), answer);
                    due("asked, " + number, state(p), before);
                    number++;
                }
            }
        }
    }

    // ---- exceptions

    private static void refusals() {
        says(0, "A call that throws an exception changes nothing;");
        for (int d : BOTH) {
            for (Maker maker : new Maker[] {() -> furnished(d), () -> full(d)}) {
                // Many refused calls, one behind the other, leave it as it was.
                Polymorphium p = maker.make();
                List<Question> refused = refusedBy(d);
                for (Question question : refused) {
                    due("refused", outcome(() -> question.of(p)) instanceof Class, true);
                }
                due("after " + refused.size() + " refused calls", state(p), state(maker.make()));
            }
        }
    }

    /** Calls that any house with d values refuses. */
    private static List<Question> refusedBy(int d) {
        List<Question> refused = new ArrayList<>();
        for (int odd : new int[] {-2, MIN, MAX, 65536, 256}) {
            refused.addAll(List.of(p -> p.values(odd), p -> p.relation(odd), p -> p.tuple(odd, 0, true),
                    p -> p.tuple(0, odd, true), p -> p.tuple(0, odd, false), p -> p.ofRelation(odd, 0),
                    p -> p.ofRelation(0, odd), p -> p.operation(odd), p -> p.make(odd), p -> p.answers(odd, 0, 0)));
            refused.addAll(List.of(p -> p.answers(0, odd, 0), p -> p.answers(0, 0, odd), p -> p.code(odd),
                    p -> p.keeps(odd, 0), p -> p.keeps(0, odd), p -> p.breaks(odd, 0), p -> p.breaks(0, odd),
                    p -> p.has(odd, 0), p -> p.has(0, odd), p -> p.closed(odd, 0)));
            refused.addAll(List.of(p -> p.closed(0, odd), p -> p.kept(odd), p -> p.first(odd), p -> p.around(odd),
                    p -> p.type(odd, 8), p -> p.type('a', odd), p -> p.type(odd - 1, 1), p -> p.instance(odd),
                    p -> p.constrain(odd, 0, 0, NONE), p -> p.constrain(0, odd, NONE, NONE)));
            refused.addAll(List.of(p -> p.constrain(0, 0, odd, NONE), p -> p.constrain(0, 0, NONE, odd),
                    p -> p.constrain(1, 0, NONE, NONE), p -> p.left(odd), p -> p.pairs(odd, 0), p -> p.pairs(0, odd),
                    p -> p.pairs(odd, odd), p -> p.pairs(1, 1)));
        }
        if (d == 3) {
            refused.add(Polymorphium::binary);
        }
        return refused;
    }

    private static void firstExceptions() {
        says(0, "if several exceptions apply, the one that its throws clause names first is thrown.");
        for (int d : BOTH) {
            Maker full = () -> full(d);
            refuses("relation: places, and 8", full, ARGUMENT, p -> p.relation(4));
            refuses("ofRelation: no relation, and what", full, INDEX, p -> p.ofRelation(8, 3));
            refuses("operation: places, and 6", full, ARGUMENT, p -> p.operation(4));
            refuses("make: what, and 6", full, ARGUMENT, p -> p.make(5));
            refuses("answers: no operation, and value", full, INDEX, p -> p.answers(6, 0, d));
            refuses("answers: no point, and value", full, INDEX, p -> p.answers(0, d * d, d));
            refuses("has: no operation, and identity", full, INDEX, p -> p.has(6, 5));
            refuses("around: no relation, and others with too many", full, INDEX, p -> p.around(8));
            refuses("type: n, and 60", full, ARGUMENT, p -> p.type('a', 9));
            refuses("type: a character, and 60", full, ARGUMENT, p -> p.type('g', 1));
            refuses("type: just the last character, and 60", full, ARGUMENT, p -> p.type('a' | 'g' << 8, 2));
            refuses("define: no formula, and 8", () -> {
                Polymorphium p = full(d);
                p.wipe();
                p.type('a', 1);
                return p;
            }, ARGUMENT, p -> p.define());
            refuses("constrain: no relation, and places, and 16", full, INDEX, p -> p.constrain(8, NONE, 0, 0));
            refuses("constrain: no variable, and places, and 16", full, INDEX, p -> p.constrain(0, NONE, 6, 0));
            refuses("constrain: no variable, and 16", full, INDEX, p -> p.constrain(0, 6, NONE, NONE));
            refuses("constrain: places, and 16", full, ARGUMENT, p -> p.constrain(0, 0, 0, NONE));
            refuses("constrain: no variable, and places", () -> furnished(d), INDEX,
                    p -> p.constrain(0, NONE, NONE, 3));
            refuses("pairs: no variable, and the same", full, INDEX, p -> p.pairs(6, 6));
            refuses("pairs: no variable, and the same, below", full, INDEX, p -> p.pairs(NONE, NONE));
        }
    }

    // ---- how many calls

    /** Behind 511 other calls, each of all calls answers as it does behind none. */
    private static void fiveHundredAndTwelve() {
        says(0, "An object is used for at most 512 calls after it has been made;");
        for (int d : BOTH) {
            List<Question> lasts = new ArrayList<>(questionsOf(d));
            lasts.addAll(List.of(p -> p.values(5 - d), p -> p.relation(2), p -> p.tuple(1, 3, true),
                    p -> p.operation(3), p -> p.make(2), p -> p.answers(2, 0, 1), p -> p.type('&', 1),
                    p -> p.wipe(), p -> p.define(), p -> p.instance(6)));
            lasts.addAll(List.of(p -> p.constrain(1, 2, 0, NONE), p -> p.relation(0), p -> p.values(4)));
            for (Question last : lasts) {
                Polymorphium soon = furnished(d);
                Polymorphium late = furnished(d);
                List<Question> others = questionsOf(d);
                for (int call = FURNISHING; call < 511; call++) {
                    Question other = others.get(call % others.size());
                    due("a call ahead of it", outcome(() -> other.of(late)), outcome(() -> other.of(furnished(d))));
                }
                due("the last call", outcome(() -> last.of(late)), outcome(() -> last.of(soon)));
            }
        }
    }

    private static void fiveHundredAndTwelveRefused() {
        says(0, "An object is used for at most 512 calls after it has been made;");
        Polymorphium p = new Polymorphium();
        for (int call = 0; call < 511; call++) {
            outcome(() -> p.relation(4));
        }
        due("the last, behind refused ones", p.relation(3), 0);
        Polymorphium q = new Polymorphium();
        for (int call = 0; call < 511; call++) {
            q.values(2 + call % 2);
        }
        due("the last, behind beginnings", q.values(3), 2);
        Polymorphium r = new Polymorphium();
        r.relation(3);
        int set = 0;
        for (int call = 1; call < 511; call++) {
            boolean is = call % 3 != 0;
            set = is ? set | 1 << call % 8 : set & ~(1 << call % 8);
            r.tuple(0, call % 8, is);
        }
        due("the last, behind tuples", r.ofRelation(0, 1), set);
    }

    /** The calls that have most to do, as often as there may be calls. */
    private static void dearestCalls() {
        says(0, "An object is used for at most 512 calls after it has been made;");
        List<Question> dear = List.of(p -> p.first(Polymorphium.VOTE), p -> p.kept(2), p -> p.pairs(0, 5),
                Polymorphium::solutionsAnew, p -> p.closed(2, 2), Polymorphium::core);
        for (int d : BOTH) {
            for (Question question : dear) {
                Polymorphium p = full(d);
                Object first = question.of(p);
                for (int call = 0; call < 400; call++) {
                    due("as at first", question.of(p), first);
                }
            }
        }
    }
}
