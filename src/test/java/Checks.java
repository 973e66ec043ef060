/** What tests share: checks that are counted, calls that are refused, and houses that one line makes. */
abstract class Checks {
    static final Class<?> ARGUMENT = IllegalArgumentException.class;
    static final Class<?> STATE = IllegalStateException.class;
    static final Class<?> INDEX = IndexOutOfBoundsException.class;
    static final int NONE = Polymorphium.NONE;
    static final int MIN = Integer.MIN_VALUE;
    static final int MAX = Integer.MAX_VALUE;
    /** How many values a house can have. */
    static final int[] BOTH = {2, 3};

    private static int checks = 0;
    private static int wrong = 0;
    private static String sentence = "";

    interface Call {
        Object answer();
    }

    interface Maker {
        Polymorphium make();
    }

    interface Question {
        Object of(Polymorphium house);
    }

    /** The checks up to the next such call are about these words of a promise, or of the terms, if it is 0. */
    static void says(int promise, String words) {
        Document.quote(promise, words);
        sentence = promise + ": \"" + words + "\": ";
    }

    static void due(String what, Object got, Object want) {
        checks++;
        if (!String.valueOf(want).equals(String.valueOf(got))) {
            wrong++;
            System.out.println(sentence + what + ": " + got + ", due is " + want);
        }
    }

    /** Says how many checks were wrong, and ends the test so. */
    static void end() {
        System.out.println(checks + " checks, " + wrong + " of them wrong");
        if (wrong != 0) {
            System.exit(1);
        }
    }

    /** What a call answers, or the very class of what it throws. */
    static Object outcome(Call call) {
        try {
            return call.answer();
        } catch (RuntimeException e) {
            return e.getClass();
        }
    }

    /** A call on a new house throws an exception of just this class, and leaves the house as it was. */
    static void refuses(String what, Maker maker, Class<?> exception, Question question) {
        Polymorphium house = maker.make();
        due(what, outcome(() -> question.of(house)), exception);
        due(what + " changes nothing", state(house), state(maker.make()));
    }

    /** Asks each of the questions, which are told by numbers, of a house of its own. */
    static void refusesAll(String what, Maker maker, Class<?> exception, int[] numbers, NumberedQuestion question) {
        for (int number : numbers) {
            refuses(what + " " + number, maker, exception, p -> question.of(p, number));
        }
    }

    interface NumberedQuestion {
        Object of(Polymorphium house, int number);
    }

    /** Refuses the numbers of relations that are not there, in houses without any, with some and with 8 of them. */
    static void refusesRelations(NumberedQuestion question) {
        refusesNumbers(2, 7, question);
    }

    /** The same for the numbers of operations, at most 6. */
    static void refusesOperations(NumberedQuestion question) {
        refusesNumbers(2, 5, question);
    }

    private static void refusesNumbers(int lastFurnished, int lastFull, NumberedQuestion question) {
        for (int d : BOTH) {
            refusesAll("a new house of " + d, () -> house(d), INDEX, outside(0, -1), question);
            refusesAll("some in a house of " + d, () -> furnished(d), INDEX, outside(0, lastFurnished), question);
            refusesAll("a full house of " + d, () -> full(d), INDEX, outside(0, lastFull), question);
        }
    }

    /** Numbers out of a range: its neighbours, the least and the greatest int, and such as end in the same bits. */
    static int[] outside(int low, int high) {
        return new int[] {low - 1, high + 1, low + 32, low + 64, low + 256, low + 65536, high - 256,
            MIN, MIN + low, MIN + high, MAX, MAX - 255 + low};
    }

    /** How many tuples of n places there are, or operations with n points. */
    static int power(int many, int n) {
        int power = 1;
        for (int i = 0; i < n; i++) {
            power *= many;
        }
        return power;
    }

    /** The most places that a relation has. */
    static int most(int many) {
        return many == 2 ? 3 : 2;
    }

    // ---- houses

    static Polymorphium house(int many) {
        Polymorphium p = new Polymorphium();
        p.values(many);
        return p;
    }

    /** Makes a relation with some tuples, told by their codes. */
    static int relation(Polymorphium p, int places, int... tuples) {
        int relation = p.relation(places);
        for (int tuple : tuples) {
            p.tuple(relation, tuple, true);
        }
        return relation;
    }

    /** Makes an operation that answers for the points, in the order of their codes, as told. */
    static int operation(Polymorphium p, int places, String answers) {
        int operation = p.operation(places);
        for (int point = 0; point < answers.length(); point++) {
            p.answers(operation, point, answers.charAt(point) - '0');
        }
        return operation;
    }

    /** Types a text, eight characters at once. */
    static void type(Polymorphium p, String text) {
        for (int at = 0; at < text.length(); at += 8) {
            int n = Math.min(8, text.length() - at);
            p.type(packed(text.substring(at, at + n)), n);
        }
    }

    static long packed(String text) {
        long characters = 0;
        for (int i = text.length() - 1; i >= 0; i--) {
            characters = characters << 8 | text.charAt(i);
        }
        return characters;
    }

    static Polymorphium houseWithTape(int many, String text) {
        Polymorphium p = house(many);
        type(p, text);
        return p;
    }

    /** The set of tuples that a formula defines. */
    static int defined(Polymorphium p, String text) {
        type(p, text);
        return p.ofRelation(p.define(), 1);
    }

    static void fillRelations(Polymorphium p) {
        for (int i = 0; i < 8; i++) {
            p.relation(1);
        }
    }

    static void fillOperations(Polymorphium p) {
        for (int i = 0; i < 6; i++) {
            p.operation(1);
        }
    }

    /** How many calls a furnished house has answered. */
    static final int FURNISHING = 18;

    /** A house with some of all, and room for more. */
    static Polymorphium furnished(int many) {
        return furnish(house(many), many);
    }

    static Polymorphium furnish(Polymorphium p, int many) {
        relation(p, 1, 0);
        relation(p, 2, 1, 2);
        relation(p, most(many), 0, 3, 4);
        p.make(Polymorphium.LEAST);
        p.make(Polymorphium.CYCLE);
        p.operation(3);
        p.instance(3);
        p.constrain(1, 0, 1, NONE);
        p.constrain(0, 2, NONE, NONE);
        type(p, "ab:1(a,c)&c=b");
        return p;
    }

    /** A house in which all is full: relations, operations, variables, constraints, and the tape with a formula. */
    static Polymorphium full(int many) {
        Polymorphium p = house(many);
        relation(p, 1, 0, 1);
        relation(p, 2, 1, 2, 3);
        relation(p, most(many), 0, 3, 4, 6);
        for (int i = 3; i < 8; i++) {
            relation(p, 1 + i % 2, 0, 1);
        }
        for (int what = Polymorphium.LEAST; what <= Polymorphium.CYCLE; what++) {
            p.make(what);
        }
        operation(p, 2, "0110");
        p.instance(6);
        for (int i = 0; i < 16; i++) {
            p.constrain(1, i % 6, (i + 1) % 6, NONE);
        }
        type(p, SIXTY);
        return p;
    }

    /** A formula of sixty characters, if the relation 0 has one place. */
    static final String SIXTY = "a:a=a" + "&0(a)".repeat(11);

    /** All that can be known of a house, which is of no use then. */
    static String state(Polymorphium p) {
        return new House(p).state();
    }
}
