/**
 * A house of questions and their symmetries: relations, the operations that keep or break them, templates,
 * formulas and instances. What each call answers is told in ../shared/DOC.md, as numbered promises.
 *
 * All rows are made by the constructor and used again, so that no call makes anything but its exception.
 */
public final class Polymorphium {
    public static final int NONE = -1;
    public static final int IDEMPOTENT = 0, SYMMETRIC = 1, ASSOCIATES = 2, MAJORITY = 3, MALTSEV = 4;
    public static final int LEAST = 0, GREATEST = 1, MIDDLE = 2, AFFINE = 3, CYCLE = 4;
    public static final int CONSTANT = 0, SEMILATTICE = 1, VOTE = 2, SUM = 3;

    private static final int MOST_RELATIONS = 8;
    private static final int MOST_OPERATIONS = 6;
    private static final int MOST_PLACES = 3;
    private static final int MOST_VARIABLES = 6;
    private static final int MOST_CONSTRAINTS = 16;
    private static final int MOST_SIGNS = 60;
    /** Three values on three places; no relation has more tuples, and no operation more points. */
    private static final int MOST_CODES = 27;
    /** The number that the template gives to the relation of two like values, behind all that calls can make. */
    private static final int EQUALITY = MOST_RELATIONS;

    private final Numbers numbers = new Numbers();
    private final Template template = new Template(numbers);
    private final Applier applier = new Applier(numbers);
    private final Operations operations = new Operations(numbers, applier);
    private final Kinds kinds = new Kinds(numbers, template, applier);
    private final Tape tape = new Tape();
    private final Formula formula = new Formula(numbers, template);
    private final Instance asked = new Instance(numbers, template);
    private final Pairs pairsLeft = new Pairs(numbers, asked);

    public Polymorphium() {
        beginAnew(2);
    }

    // ---- values, relations

    public int values(int many) throws IllegalArgumentException {
        if (many != 2 && many != 3) {
            throw new IllegalArgumentException("there are 2 or 3 values");
        }
        int before = numbers.many;
        beginAnew(many);
        return before;
    }

    public int relation(int places) throws IllegalArgumentException, IllegalStateException {
        if (places < 1 || places > numbers.widest()) {
            throw new IllegalArgumentException("no relation has so many places");
        }
        if (template.count >= MOST_RELATIONS) {
            throw new IllegalStateException("there are 8 relations");
        }
        return template.add(places, 0);
    }

    public boolean tuple(int relation, int tuple, boolean is) throws IndexOutOfBoundsException {
        if (!template.isThere(relation)) {
            throw new IndexOutOfBoundsException("no such relation");
        }
        if (tuple < 0 || tuple >= numbers.power(template.placesOf(relation))) {
            throw new IndexOutOfBoundsException("no such tuple");
        }
        int before = template.tuplesOf(relation);
        template.setTuples(relation, is ? before | 1 << tuple : before & ~(1 << tuple));
        return isIn(tuple, before);
    }

    public int ofRelation(int relation, int what) throws IndexOutOfBoundsException, IllegalArgumentException {
        if (!template.isThere(relation)) {
            throw new IndexOutOfBoundsException("no such relation");
        }
        switch (what) {
            case 0:
                return template.placesOf(relation);
            case 1:
                return template.tuplesOf(relation);
            case 2:
                return Integer.bitCount(template.tuplesOf(relation));
            default:
                throw new IllegalArgumentException("what is 0, 1 or 2");
        }
    }

    // ---- operations

    public int operation(int places) throws IllegalArgumentException, IllegalStateException {
        if (places < 1 || places > MOST_PLACES) {
            throw new IllegalArgumentException("an operation has 1 to 3 places");
        }
        if (operations.count >= MOST_OPERATIONS) {
            throw new IllegalStateException("there are 6 operations");
        }
        return operations.add(places);
    }

    public int make(int what) throws IllegalArgumentException, IllegalStateException {
        if (what < LEAST || what > CYCLE) {
            throw new IllegalArgumentException("what is LEAST to CYCLE");
        }
        if (operations.count >= MOST_OPERATIONS) {
            throw new IllegalStateException("there are 6 operations");
        }
        return operations.addMade(what);
    }

    public int answers(int operation, int point, int value)
            throws IndexOutOfBoundsException, IllegalArgumentException {
        Operation told = operations.get(operation);
        if (told == null) {
            throw new IndexOutOfBoundsException("no such operation");
        }
        if (point < 0 || point >= told.points()) {
            throw new IndexOutOfBoundsException("no such point");
        }
        if (value < 0 || value >= numbers.many) {
            throw new IllegalArgumentException("no such value");
        }
        int before = told.answerAt(point);
        told.setAnswer(point, value);
        return before;
    }

    public long code(int operation) throws IndexOutOfBoundsException {
        Operation told = operations.get(operation);
        if (told == null) {
            throw new IndexOutOfBoundsException("no such operation");
        }
        return told.wholeCode();
    }

    public boolean keeps(int operation, int relation) throws IndexOutOfBoundsException {
        Operation told = operations.get(operation);
        if (told == null || !template.isThere(relation)) {
            throw new IndexOutOfBoundsException("no such operation or relation");
        }
        return applier.strays(told, template.placesOf(relation), template.tuplesOf(relation)) == 0;
    }

    public int breaks(int operation, int relation) throws IndexOutOfBoundsException {
        Operation told = operations.get(operation);
        if (told == null || !template.isThere(relation)) {
            throw new IndexOutOfBoundsException("no such operation or relation");
        }
        return lowestOf(applier.strays(told, template.placesOf(relation), template.tuplesOf(relation)));
    }

    public boolean has(int operation, int identity) throws IndexOutOfBoundsException, IllegalArgumentException {
        Operation told = operations.get(operation);
        if (told == null) {
            throw new IndexOutOfBoundsException("no such operation");
        }
        switch (identity) {
            case IDEMPOTENT:
                return told.isIdempotent();
            case SYMMETRIC:
                return told.isSymmetric();
            case ASSOCIATES:
                return told.isAssociative();
            case MAJORITY:
                return told.isMajority();
            case MALTSEV:
                return told.isMaltsev();
            default:
                throw new IllegalArgumentException("an identity is IDEMPOTENT to MALTSEV");
        }
    }

    public int closed(int operation, int relation) throws IndexOutOfBoundsException {
        Operation told = operations.get(operation);
        if (told == null || !template.isThere(relation)) {
            throw new IndexOutOfBoundsException("no such operation or relation");
        }
        return applier.closure(told, template.placesOf(relation), template.tuplesOf(relation));
    }

    public int monoid() {
        return Integer.bitCount(operations.unaryOnes());
    }

    public int binary() throws IllegalStateException {
        if (numbers.many == 3) {
            throw new IllegalStateException("there are 3 values");
        }
        return operations.binaryOnes();
    }

    public int kept(int places) throws IllegalArgumentException {
        if (places != 1 && places != 2) {
            throw new IllegalArgumentException("places are 1 or 2");
        }
        return operations.countKept(places);
    }

    // ---- templates

    public long first(int kind) throws IllegalArgumentException {
        switch (kind) {
            case CONSTANT:
                return kinds.firstConstant();
            case SEMILATTICE:
                return kinds.firstSemilattice();
            case VOTE:
                return kinds.firstVote();
            case SUM:
                return kinds.firstSum();
            default:
                throw new IllegalArgumentException("a kind is CONSTANT to SUM");
        }
    }

    public int ends() {
        return kinds.countEnds();
    }

    public int core() {
        return kinds.fewestEndValues();
    }

    public int around(int relation) throws IndexOutOfBoundsException, IllegalStateException {
        if (!template.isThere(relation)) {
            throw new IndexOutOfBoundsException("no such relation");
        }
        if (Integer.bitCount(template.tuplesOf(relation)) > (numbers.many == 2 ? 3 : 2)) {
            throw new IllegalStateException("the relation has too many tuples");
        }
        return kinds.leastAround(relation);
    }

    // ---- formulas

    public int type(long characters, int n) throws IllegalArgumentException, IllegalStateException {
        if (n < 1 || n > 8) {
            throw new IllegalArgumentException("1 to 8 characters are typed");
        }
        for (int i = 0; i < n; i++) {
            if (!Tape.canHold(signOf(characters, i))) {
                throw new IllegalArgumentException("a character cannot be on the tape");
            }
        }
        if (tape.length + n > MOST_SIGNS) {
            throw new IllegalStateException("the tape would have more than 60 characters");
        }
        for (int i = 0; i < n; i++) {
            tape.add(signOf(characters, i));
        }
        return tape.length;
    }

    public int wipe() {
        int before = tape.length;
        tape.length = 0;
        return before;
    }

    public int fault() {
        return formula.read(tape);
    }

    public int define() throws IllegalArgumentException, IllegalStateException {
        if (formula.read(tape) != NONE) {
            throw new IllegalArgumentException("the tape is no formula; fault() tells where");
        }
        if (template.count >= MOST_RELATIONS) {
            throw new IllegalStateException("there are 8 relations");
        }
        int number = template.add(formula.headLength, formula.tuplesOfHead());
        tape.length = 0;
        return number;
    }

    // ---- instances

    public int instance(int variables) throws IllegalArgumentException {
        if (variables < 1 || variables > MOST_VARIABLES) {
            throw new IllegalArgumentException("an instance has 1 to 6 variables");
        }
        int before = asked.constraints;
        asked.begin(variables);
        return before;
    }

    public int constrain(int relation, int first, int second, int third)
            throws IndexOutOfBoundsException, IllegalArgumentException, IllegalStateException {
        if (!template.isThere(relation)) {
            throw new IndexOutOfBoundsException("no such relation");
        }
        if (!isVariableOrNone(first) || !isVariableOrNone(second) || !isVariableOrNone(third)) {
            throw new IndexOutOfBoundsException("no such variable");
        }
        int places = template.placesOf(relation);
        if (first == NONE || (second == NONE) == (places >= 2) || (third == NONE) == (places >= 3)) {
            throw new IllegalArgumentException("each place has a variable, and nothing else has one");
        }
        if (asked.constraints >= MOST_CONSTRAINTS) {
            throw new IllegalStateException("there are 16 constraints");
        }
        asked.add(relation, first, second, third);
        return asked.constraints;
    }

    public int solutions() {
        return asked.countSolutions();
    }

    public int solutionsAnew() {
        return asked.countByTryingAll();
    }

    public int solve() {
        return asked.lowestSolution();
    }

    public int left(int variable) throws IndexOutOfBoundsException {
        if (!asked.isThere(variable)) {
            throw new IndexOutOfBoundsException("no such variable");
        }
        return asked.valuesLeft(variable);
    }

    public int pairs(int first, int second) throws IndexOutOfBoundsException, IllegalArgumentException {
        if (!asked.isThere(first) || !asked.isThere(second)) {
            throw new IndexOutOfBoundsException("no such variable");
        }
        if (first == second) {
            throw new IllegalArgumentException("both variables are the same");
        }
        return pairsLeft.ofVariables(first, second);
    }

    // ---- what the calls share

    private void beginAnew(int many) {
        numbers.begin(many);
        template.begin();
        operations.count = 0;
        asked.begin(1);
    }

    private boolean isVariableOrNone(int variable) {
        return variable == NONE || asked.isThere(variable);
    }

    private static char signOf(long characters, int i) {
        return (char) (characters >>> 8 * i & 255);
    }

    private static boolean isIn(int member, int set) {
        return (set >> member & 1) != 0;
    }

    private static int lowestOf(int set) {
        for (int member = 0; member < 32; member++) {
            if (isIn(member, set)) {
                return member;
            }
        }
        return NONE;
    }

    /** Reads a row only where it has a place, so that the machine has nothing to throw. */
    private static int at(int[] row, int index) {
        return index >= 0 && index < row.length ? row[index] : 0;
    }

    /** Writes to a row only where it has a place, so that the machine has nothing to throw. */
    private static void put(int[] row, int index, int entry) {
        if (index >= 0 && index < row.length) {
            row[index] = entry;
        }
    }

    /** How many values there are, and what the codes of tuples and points stand for. */
    private static final class Numbers {
        private static final int BITS = 5;
        private static final int MASK = 31;
        /** An operation of two places with two values is itself a tuple of four. */
        private static final int SPREAD_PLACES = 4;

        int many;
        private final int[] powers = new int[MOST_VARIABLES + 1];
        private final int[] spreads = new int[MOST_CODES];

        void begin(int howMany) {
            many = howMany;
            int power = 1;
            for (int n = 0; n < powers.length; n++) {
                powers[n] = power;
                power *= howMany;
            }
            for (int code = 0; code < spreads.length; code++) {
                spreads[code] = spreadOut(code, howMany);
            }
        }

        private static int spreadOut(int code, int howMany) {
            int spread = 0;
            int rest = code;
            for (int place = 0; place < SPREAD_PLACES; place++) {
                int digit = howMany == 3 ? rest % 3 : rest % 2;
                rest = howMany == 3 ? rest / 3 : rest / 2;
                spread |= digit << BITS * place;
            }
            return spread;
        }

        /** How many values there are, to the power of n; n is 0 to 6. */
        int power(int n) {
            return at(powers, n);
        }

        /**
         * The values on all places of a tuple in one number, each on five bits of its own: codes of points are
         * below 32, so that such numbers can be multiplied by `many` and added, all places at once.
         */
        int spread(int code) {
            return at(spreads, code);
        }

        int onPlace(int spread, int place) {
            return spread >> BITS * place & MASK;
        }

        int digit(int code, int place) {
            return at(spreads, code) >> BITS * place & MASK;
        }

        /** The most places that a relation has. */
        int widest() {
            return many == 2 ? 3 : 2;
        }

        int allValues() {
            return (1 << many) - 1;
        }
    }

    /** All relations, and behind them the one of two like values. */
    private static final class Template {
        int count;
        private final Numbers numbers;
        private final int[] places = new int[MOST_RELATIONS + 1];
        private final int[] tuples = new int[MOST_RELATIONS + 1];

        Template(Numbers numbers) {
            this.numbers = numbers;
        }

        void begin() {
            count = 0;
            put(places, EQUALITY, 2);
            int like = 0;
            for (int value = 0; value < numbers.many; value++) {
                like |= 1 << value + numbers.many * value;
            }
            put(tuples, EQUALITY, like);
        }

        boolean isThere(int relation) {
            return relation >= 0 && relation < count;
        }

        int placesOf(int relation) {
            return at(places, relation);
        }

        int tuplesOf(int relation) {
            return at(tuples, relation);
        }

        void setTuples(int relation, int set) {
            put(tuples, relation, set);
        }

        int add(int width, int set) {
            int number = count;
            put(places, number, width);
            put(tuples, number, set);
            count++;
            return number;
        }
    }

    /** An operation: what it answers, by the codes of its points. */
    private static final class Operation {
        private final Numbers numbers;
        private int places = 1;
        private final int[] answers = new int[Numbers.MASK + 1];

        Operation(Numbers numbers) {
            this.numbers = numbers;
        }

        /** At first it answers the value on its first place. */
        void begin(int howManyPlaces) {
            places = howManyPlaces;
            for (int point = 0; point < points(); point++) {
                setAnswer(point, numbers.digit(point, 0));
            }
        }

        void become(int what) {
            begin(what == LEAST || what == GREATEST ? 2 : what == CYCLE ? 1 : 3);
            for (int point = 0; point < points(); point++) {
                int x = numbers.digit(point, 0);
                int y = numbers.digit(point, 1);
                int z = numbers.digit(point, 2);
                setAnswer(point, madeAnswer(what, x, y, z));
            }
        }

        private int madeAnswer(int what, int x, int y, int z) {
            switch (what) {
                case LEAST:
                    return Math.min(x, y);
                case GREATEST:
                    return Math.max(x, y);
                case MIDDLE:
                    return Math.max(Math.min(x, y), Math.min(Math.max(x, y), z));
                case AFFINE:
                    return remainder(x - y + z);
                default:
                    return remainder(x + 1);
            }
        }

        /** The sums that are asked lie less than `many` outside the values, so that one step is enough. */
        private int remainder(int sum) {
            return sum < 0 ? sum + numbers.many : sum >= numbers.many ? sum - numbers.many : sum;
        }

        /** Makes it the operation of one place whose code is told. */
        void becomeUnary(int unaryCode) {
            begin(1);
            for (int value = 0; value < points(); value++) {
                setAnswer(value, numbers.digit(unaryCode, value));
            }
        }

        int placeCount() {
            return places;
        }

        int points() {
            return numbers.power(places);
        }

        int answerAt(int point) {
            return at(answers, point);
        }

        void setAnswer(int point, int value) {
            put(answers, point, value);
        }

        /** What it answers for some values; those behind its last place do not count. */
        int answerFor(int x, int y, int z) {
            return answerAt(pointOf(x, y, z));
        }

        int pointOf(int x, int y, int z) {
            int point = x;
            if (places > 1) {
                point += numbers.power(1) * y;
            }
            if (places > 2) {
                point += numbers.power(2) * z;
            }
            return point;
        }

        /** The tuple of the answers for some points, one on each place of a spread. */
        int answerTuple(int columns, int width) {
            int tuple = 0;
            for (int place = width - 1; place >= 0; place--) {
                tuple = tuple * numbers.many + at(answers, numbers.onPlace(columns, place));
            }
            return tuple;
        }

        long wholeCode() {
            long whole = 0;
            for (int point = points() - 1; point >= 0; point--) {
                whole = whole * numbers.many + answerAt(point);
            }
            return whole;
        }

        boolean isIdempotent() {
            for (int x = 0; x < numbers.many; x++) {
                if (answerFor(x, x, x) != x) {
                    return false;
                }
            }
            return true;
        }

        /** Changing two neighbours is enough, since all orders come from such changes. */
        boolean isSymmetric() {
            for (int point = 0; point < points(); point++) {
                int x = numbers.digit(point, 0);
                int y = numbers.digit(point, 1);
                int z = numbers.digit(point, 2);
                if (places > 1 && answerFor(y, x, z) != answerAt(point)) {
                    return false;
                }
                if (places > 2 && answerFor(x, z, y) != answerAt(point)) {
                    return false;
                }
            }
            return true;
        }

        boolean isAssociative() {
            if (places != 2) {
                return false;
            }
            for (int triple = 0; triple < numbers.power(3); triple++) {
                int x = numbers.digit(triple, 0);
                int y = numbers.digit(triple, 1);
                int z = numbers.digit(triple, 2);
                if (answerFor(x, answerFor(y, z, 0), 0) != answerFor(answerFor(x, y, 0), z, 0)) {
                    return false;
                }
            }
            return true;
        }

        boolean isMajority() {
            if (places != 3) {
                return false;
            }
            for (int pair = 0; pair < numbers.power(2); pair++) {
                int x = numbers.digit(pair, 0);
                int y = numbers.digit(pair, 1);
                if (answerFor(x, x, y) != x || answerFor(x, y, x) != x || answerFor(y, x, x) != x) {
                    return false;
                }
            }
            return true;
        }

        boolean isMaltsev() {
            if (places != 3) {
                return false;
            }
            for (int pair = 0; pair < numbers.power(2); pair++) {
                int x = numbers.digit(pair, 0);
                int y = numbers.digit(pair, 1);
                if (answerFor(x, y, y) != x || answerFor(y, y, x) != x) {
                    return false;
                }
            }
            return true;
        }
    }

    /** Applies operations to tuples: to all choices of a tuple of a set for each place of the operation. */
    private static final class Applier {
        private final Numbers numbers;
        private final int[] members = new int[MOST_CODES];
        private final int[] chosen = new int[MOST_PLACES];
        private int memberCount;
        private int chosenPlaces;

        Applier(Numbers numbers) {
            this.numbers = numbers;
        }

        /** Begins with the choices of some tuples of a set; returns how many choices there are. */
        int beginChoices(int howMany, int tuples) {
            memberCount = 0;
            for (int tuple = 0; tuple < MOST_CODES; tuple++) {
                if (isIn(tuple, tuples)) {
                    put(members, memberCount, numbers.spread(tuple));
                    memberCount++;
                }
            }
            chosenPlaces = howMany;
            int choices = 1;
            for (int place = 0; place < chosenPlaces; place++) {
                put(chosen, place, 0);
                choices *= memberCount;
            }
            return choices;
        }

        /** The points that the tuples of the next choice make, as a spread: one for each place of the tuples. */
        int nextColumns() {
            int columns = 0;
            for (int place = chosenPlaces - 1; place >= 0; place--) {
                columns = columns * numbers.many + at(members, at(chosen, place));
            }
            stepOn();
            return columns;
        }

        private void stepOn() {
            for (int place = 0; place < chosenPlaces; place++) {
                int next = at(chosen, place) + 1;
                if (next < memberCount) {
                    put(chosen, place, next);
                    return;
                }
                put(chosen, place, 0);
            }
        }

        /** The tuples that come by applying an operation to tuples of a set. */
        int images(Operation operation, int width, int tuples) {
            int images = 0;
            for (int choices = beginChoices(operation.placeCount(), tuples); choices > 0; choices--) {
                images |= 1 << operation.answerTuple(nextColumns(), width);
            }
            return images;
        }

        /** Those of them that are not in the set; a set of all tuples is not worth the choices. */
        int strays(Operation operation, int width, int tuples) {
            int all = (1 << numbers.power(width)) - 1;
            return tuples == all ? 0 : images(operation, width, tuples) & ~tuples;
        }

        int closure(Operation operation, int width, int tuples) {
            int closure = tuples;
            // Each round but the last one brings a code or more.
            for (int round = 0; round <= MOST_CODES; round++) {
                int strays = strays(operation, width, closure);
                if (strays == 0) {
                    break;
                }
                closure |= strays;
            }
            return closure;
        }
    }

    /** The operations that calls have made, and what comes from them. */
    private static final class Operations {
        int count;
        private final Numbers numbers;
        private final Applier applier;
        private final Operation[] all = new Operation[MOST_OPERATIONS];
        /** What all operations make of each set of tuples of two places, at most 9. */
        private final int[] made = new int[1 << 9];

        Operations(Numbers numbers, Applier applier) {
            this.numbers = numbers;
            this.applier = applier;
            for (int number = 0; number < all.length; number++) {
                all[number] = new Operation(numbers);
            }
        }

        /** The operation of a number; null if there is none. */
        Operation get(int number) {
            return number >= 0 && number < count && number < all.length ? all[number] : null;
        }

        int add(int places) {
            int number = count;
            count++;
            Operation added = get(number);
            if (added != null) {
                added.begin(places);
            }
            return number;
        }

        int addMade(int what) {
            int number = count;
            count++;
            Operation added = get(number);
            if (added != null) {
                added.become(what);
            }
            return number;
        }

        /**
         * The codes of the operations of one place that come from such ones. An operation of one place is the
         * tuple of its answers, and to put another one behind it is to apply that to this tuple.
         */
        int unaryOnes() {
            int itself = 0;
            for (int value = 0; value < numbers.many; value++) {
                itself += value * numbers.power(value);
            }
            return closure(numbers.many, 1 << itself, 1);
        }

        /** The codes of the operations of two places that come from all, with two values. */
        int binaryOnes() {
            int firstPlace = 2 + 8;
            int secondPlace = 4 + 8;
            return closure(4, 1 << firstPlace | 1 << secondPlace, MOST_PLACES);
        }

        /** The least set with some tuples that all operations keep that have no more than some places. */
        private int closure(int width, int tuples, int mostPlaces) {
            int closure = tuples;
            // Each round but the last one brings a code or more.
            for (int round = 0; round <= MOST_CODES; round++) {
                int before = closure;
                for (int number = 0; number < count; number++) {
                    Operation operation = get(number);
                    if (operation != null && operation.placeCount() <= mostPlaces) {
                        closure |= applier.strays(operation, width, closure);
                    }
                }
                if (closure == before) {
                    break;
                }
            }
            return closure;
        }

        /** How many sets of tuples all operations keep. */
        int countKept(int width) {
            int kept = 0;
            int sets = Math.min(1 << numbers.power(width), made.length);
            for (int set = 0; set < sets; set++) {
                // An operation takes three tuples at most, and these are together in a part of a larger set.
                boolean isSmall = Integer.bitCount(set) <= MOST_PLACES;
                int images = isSmall ? imagesOfAll(width, set) : madeOfParts(set);
                put(made, set, images);
                if ((images & ~set) == 0) {
                    kept++;
                }
            }
            return kept;
        }

        private int imagesOfAll(int width, int set) {
            int images = 0;
            for (int number = 0; number < count; number++) {
                Operation operation = get(number);
                if (operation != null) {
                    images |= applier.images(operation, width, set);
                }
            }
            return images;
        }

        private int madeOfParts(int set) {
            int images = 0;
            for (int tuple = 0; tuple < 9; tuple++) {
                if (isIn(tuple, set)) {
                    images |= at(made, set & ~(1 << tuple));
                }
            }
            return images;
        }
    }

    /** Looks for an operation that keeps the relations of a template and answers only what is allowed. */
    private static final class Search {
        private final Numbers numbers;
        private final Template template;
        private final Applier applier;
        /** By some points, the tuples of answers that all relations allow there. */
        private final int[] fits = new int[MOST_CODES * MOST_CODES];
        private final int[] allowed = new int[MOST_CODES];
        private final int[] order = new int[MOST_CODES];
        private final int[] answers = new int[MOST_CODES];
        private int points;

        Search(Numbers numbers, Template template, Applier applier) {
            this.numbers = numbers;
            this.template = template;
            this.applier = applier;
        }

        /** Begins with operations of some places that keep all relations but one; NONE leaves none out. */
        void begin(int places, int leftOut) {
            points = numbers.power(places);
            for (int i = 0; i < fits.length; i++) {
                fits[i] = -1;
            }
            for (int relation = 0; relation < template.count; relation++) {
                if (relation != leftOut) {
                    ask(places, template.placesOf(relation), template.tuplesOf(relation));
                }
            }
            allowAll();
        }

        void allowAll() {
            for (int point = 0; point < allowed.length; point++) {
                allowed[point] = numbers.allValues();
            }
        }

        void allowOnly(int point, int value) {
            put(allowed, point, at(allowed, point) & 1 << value);
        }

        /**
         * Asks that the answers for the points, which any choice of tuples makes, are a tuple. A relation with
         * few places is asked as one with the most, whose last points are the same and may have any answers.
         */
        private void ask(int places, int width, int tuples) {
            int widened = 0;
            for (int shift = 0; shift < numbers.power(numbers.widest()); shift += Math.max(1, numbers.power(width))) {
                widened |= tuples << shift;
            }
            for (int choices = applier.beginChoices(places, tuples); choices > 0; choices--) {
                int columns = applier.nextColumns();
                int x = numbers.onPlace(columns, 0);
                int y = numbers.onPlace(columns, Math.min(1, width - 1));
                int z = numbers.onPlace(columns, Math.min(2, width - 1));
                int key = keyOf(x, y, z);
                put(fits, key, at(fits, key) & widened);
            }
        }

        /** With three values relations have two places, and the third point does not count. */
        private int keyOf(int x, int y, int z) {
            return x + points * y + (numbers.widest() > 2 ? points * points * z : 0);
        }

        /** Finds one; that with the lowest code, if just one answer is allowed at some points and any at others. */
        boolean find() {
            int filled = orderPoints(0, true);
            orderPoints(filled, false);
            return isCompleted(this, 0);
        }

        /** Bound points go first, since they show early that nothing fits; then those that weigh most in a code. */
        private int orderPoints(int from, boolean bound) {
            int filled = from;
            for (int point = points - 1; point >= 0; point--) {
                boolean isBound = Integer.bitCount(at(allowed, point)) <= 1;
                if (isBound == bound) {
                    put(order, filled, point);
                    filled++;
                }
            }
            return filled;
        }

        /** Gives answers to the points from a depth on; the depth is below the number of points, 27 at most. */
        private static boolean isCompleted(Search search, int depth) {
            if (depth >= search.points) {
                return true;
            }
            int point = at(search.order, depth);
            for (int value = 0; value < search.numbers.many; value++) {
                if (isIn(value, at(search.allowed, point))) {
                    put(search.answers, point, value);
                    if (search.isFitting(depth) && isCompleted(search, depth + 1)) {
                        return true;
                    }
                }
            }
            return false;
        }

        /** Whether the answer at a depth fits those before. */
        private boolean isFitting(int depth) {
            int x = at(order, depth);
            int last = numbers.widest() > 2 ? depth : 0;
            for (int i = 0; i <= depth; i++) {
                int y = at(order, i);
                for (int j = 0; j <= last; j++) {
                    int z = at(order, j);
                    if (!isAllowed(x, y, z) || !isAllowed(y, x, z) || !isAllowed(y, z, x)) {
                        return false;
                    }
                }
            }
            return true;
        }

        private boolean isAllowed(int x, int y, int z) {
            int tuple = at(answers, x) + numbers.power(1) * at(answers, y);
            if (numbers.widest() > 2) {
                tuple += numbers.power(2) * at(answers, z);
            }
            return isIn(tuple, at(fits, keyOf(x, y, z)));
        }

        /** The code of the operation that was found. */
        long foundCode() {
            long found = 0;
            for (int point = points - 1; point >= 0; point--) {
                found = found * numbers.many + at(answers, point);
            }
            return found;
        }
    }

    /** What is asked of a template: operations of a kind, endomorphisms, what can be defined. */
    private static final class Kinds {
        private final Numbers numbers;
        private final Template template;
        private final Applier applier;
        private final Search search;
        private final Operation tried;

        Kinds(Numbers numbers, Template template, Applier applier) {
            this.numbers = numbers;
            this.template = template;
            this.applier = applier;
            search = new Search(numbers, template, applier);
            tried = new Operation(numbers);
        }

        private boolean triedKeepsAll() {
            for (int relation = 0; relation < template.count; relation++) {
                if (applier.strays(tried, template.placesOf(relation), template.tuplesOf(relation)) != 0) {
                    return false;
                }
            }
            return true;
        }

        long firstConstant() {
            tried.begin(1);
            for (int value = 0; value < numbers.many; value++) {
                for (int point = 0; point < numbers.many; point++) {
                    tried.setAnswer(point, value);
                }
                if (triedKeepsAll()) {
                    return tried.wholeCode();
                }
            }
            return NONE;
        }

        /** Unlike values that are larger weigh more in a code, so that the first one has the lowest code. */
        long firstSemilattice() {
            int choices = numbers.many == 2 ? 2 : 27;
            for (int choice = 0; choice < choices; choice++) {
                trySymmetric(choice);
                if (tried.isAssociative() && triedKeepsAll()) {
                    return tried.wholeCode();
                }
            }
            return NONE;
        }

        /** The digits of the choice are the answers for 0 and 1, for 0 and 2, and for 1 and 2. */
        private void trySymmetric(int choice) {
            tried.begin(2);
            for (int x = 0; x < numbers.many; x++) {
                for (int y = x + 1; y < numbers.many; y++) {
                    int answer = numbers.digit(choice, x + y - 1);
                    tried.setAnswer(tried.pointOf(x, y, 0), answer);
                    tried.setAnswer(tried.pointOf(y, x, 0), answer);
                }
            }
        }

        long firstVote() {
            search.begin(3, NONE);
            for (int point = 0; point < numbers.power(3); point++) {
                int x = numbers.digit(point, 0);
                int y = numbers.digit(point, 1);
                int z = numbers.digit(point, 2);
                if (x == y || x == z) {
                    search.allowOnly(point, x);
                } else if (y == z) {
                    search.allowOnly(point, y);
                }
            }
            return search.find() ? search.foundCode() : NONE;
        }

        long firstSum() {
            tried.become(AFFINE);
            return triedKeepsAll() ? tried.wholeCode() : NONE;
        }

        int countEnds() {
            int ends = 0;
            for (int unary = 0; unary < numbers.power(numbers.many); unary++) {
                tried.becomeUnary(unary);
                if (triedKeepsAll()) {
                    ends++;
                }
            }
            return ends;
        }

        int fewestEndValues() {
            int fewest = numbers.many;
            for (int unary = 0; unary < numbers.power(numbers.many); unary++) {
                tried.becomeUnary(unary);
                if (triedKeepsAll()) {
                    fewest = Math.min(fewest, answeredValues());
                }
            }
            return fewest;
        }

        private int answeredValues() {
            int answered = 0;
            for (int value = 0; value < numbers.many; value++) {
                answered |= 1 << tried.answerAt(value);
            }
            return Integer.bitCount(answered);
        }

        int leastAround(int relation) {
            int places = Integer.bitCount(template.tuplesOf(relation));
            if (places < 1) {
                return 0;
            }
            // The tuples of the relation are a choice of their own; their points are what the answers are asked for.
            int width = template.placesOf(relation);
            int columns = columnsOf(template.tuplesOf(relation));
            search.begin(places, relation);
            int least = 0;
            for (int tuple = 0; tuple < numbers.power(width); tuple++) {
                search.allowAll();
                for (int place = 0; place < width; place++) {
                    search.allowOnly(numbers.onPlace(columns, place), numbers.digit(tuple, place));
                }
                if (search.find()) {
                    least |= 1 << tuple;
                }
            }
            return least;
        }

        /** The points that the tuples make in the order of their codes, rising, as a spread. */
        private int columnsOf(int tuples) {
            int columns = 0;
            for (int tuple = MOST_CODES - 1; tuple >= 0; tuple--) {
                if (isIn(tuple, tuples)) {
                    columns = columns * numbers.many + numbers.spread(tuple);
                }
            }
            return columns;
        }
    }

    /** The characters that calls have typed. */
    private static final class Tape {
        int length;
        private final char[] signs = new char[MOST_SIGNS];

        static boolean canHold(char sign) {
            return isVariable(sign) || sign >= '0' && sign <= '7' || sign == '(' || sign == ')' || sign == ','
                    || sign == '=' || sign == '&' || sign == ':';
        }

        static boolean isVariable(char sign) {
            return sign >= 'a' && sign <= 'f';
        }

        void add(char sign) {
            if (length >= 0 && length < signs.length) {
                signs[length] = sign;
                length++;
            }
        }

        char signAt(int place) {
            return place >= 0 && place < signs.length ? signs[place] : (char) 0;
        }
    }

    /** Reads the tape as a formula: its head, and its atoms as constraints of an instance of all variables. */
    private static final class Formula {
        private static final int HEAD = 0, ATOM = 1, EQUALS = 2, OPEN = 3, VARIABLE = 4, COMMA = 5, CLOSE = 6,
                BEHIND = 7;

        int headLength;
        private final Numbers numbers;
        private final Template template;
        private final Instance atoms;
        private final int[] head = new int[MOST_PLACES];
        /** What may come next, and the atom that is being read: its relation and its variables so far. */
        private int state;
        private int relation;
        private int filled;
        private final int[] variables = new int[MOST_PLACES];

        Formula(Numbers numbers, Template template) {
            this.numbers = numbers;
            this.template = template;
            atoms = new Instance(numbers, template);
        }

        /** Returns the fault of the tape, NONE if it is a formula; then the head and the atoms stand. */
        int read(Tape tape) {
            state = HEAD;
            headLength = 0;
            atoms.begin(MOST_VARIABLES);
            for (int place = 0; place < tape.length; place++) {
                if (!takes(tape.signAt(place))) {
                    return place;
                }
            }
            return state == BEHIND ? NONE : tape.length;
        }

        private boolean takes(char sign) {
            switch (state) {
                case HEAD:
                    return takesInHead(sign);
                case ATOM:
                    return takesAtBeginningOfAtom(sign);
                case EQUALS:
                    return takesJust('=', sign, VARIABLE);
                case OPEN:
                    return takesJust('(', sign, VARIABLE);
                case VARIABLE:
                    return takesVariable(sign);
                case COMMA:
                    return takesJust(',', sign, VARIABLE);
                case CLOSE:
                    return takesJust(')', sign, BEHIND);
                default:
                    return takesJust('&', sign, ATOM);
            }
        }

        private boolean takesJust(char wanted, char sign, int next) {
            state = next;
            return sign == wanted;
        }

        private boolean takesInHead(char sign) {
            if (!Tape.isVariable(sign)) {
                state = ATOM;
                return sign == ':' && headLength > 0;
            }
            int variable = sign - 'a';
            for (int place = 0; place < headLength; place++) {
                if (at(head, place) == variable) {
                    return false;
                }
            }
            if (headLength >= numbers.widest()) {
                return false;
            }
            put(head, headLength, variable);
            headLength++;
            return true;
        }

        private boolean takesAtBeginningOfAtom(char sign) {
            filled = 0;
            if (Tape.isVariable(sign)) {
                relation = EQUALITY;
                put(variables, 0, sign - 'a');
                filled = 1;
                state = EQUALS;
                return true;
            }
            relation = sign - '0';
            state = OPEN;
            return template.isThere(relation);
        }

        private boolean takesVariable(char sign) {
            if (!Tape.isVariable(sign)) {
                return false;
            }
            put(variables, filled, sign - 'a');
            filled++;
            if (filled < template.placesOf(relation)) {
                state = COMMA;
            } else {
                atoms.add(relation, at(variables, 0), at(variables, 1), at(variables, 2));
                state = relation == EQUALITY ? BEHIND : CLOSE;
            }
            return true;
        }

        /** The tuples with which, as values of the head, there are values of all other variables. */
        int tuplesOfHead() {
            int tuples = 0;
            for (int tuple = 0; tuple < numbers.power(headLength); tuple++) {
                atoms.allowAll();
                for (int place = 0; place < headLength; place++) {
                    atoms.allowOnly(at(head, place), numbers.digit(tuple, place));
                }
                if (atoms.hasSolution()) {
                    tuples |= 1 << tuple;
                }
            }
            return tuples;
        }
    }

    /** Variables and constraints. A constraint holds the number of its relation, so that it follows its tuples. */
    private static final class Instance {
        int constraints;
        private final Numbers numbers;
        private final Template template;
        private int variables;
        private final int[] relations = new int[MOST_CONSTRAINTS];
        private final int[] widths = new int[MOST_CONSTRAINTS];
        private final int[] variablesOn = new int[MOST_CONSTRAINTS * MOST_PLACES];
        private final int[] lowestVariables = new int[MOST_CONSTRAINTS];
        /** By the variable: the values that it may have, and the one that is tried. */
        private final int[] allowed = new int[MOST_VARIABLES];
        private final int[] tried = new int[MOST_VARIABLES];

        Instance(Numbers numbers, Template template) {
            this.numbers = numbers;
            this.template = template;
        }

        void begin(int howMany) {
            variables = howMany;
            constraints = 0;
        }

        boolean isThere(int variable) {
            return variable >= 0 && variable < variables;
        }

        int variableCount() {
            return variables;
        }

        void add(int relation, int first, int second, int third) {
            put(relations, constraints, relation);
            put(widths, constraints, template.placesOf(relation));
            put(variablesOn, MOST_PLACES * constraints, first);
            put(variablesOn, MOST_PLACES * constraints + 1, second);
            put(variablesOn, MOST_PLACES * constraints + 2, third);
            put(lowestVariables, constraints, lowestVariable(constraints));
            constraints++;
        }

        private int lowestVariable(int constraint) {
            int lowest = MOST_VARIABLES;
            for (int place = 0; place < placesOf(constraint); place++) {
                lowest = Math.min(lowest, variableOn(constraint, place));
            }
            return lowest;
        }

        int placesOf(int constraint) {
            return at(widths, constraint);
        }

        int variableOn(int constraint, int place) {
            return at(variablesOn, MOST_PLACES * constraint + place);
        }

        void allowAll() {
            for (int variable = 0; variable < allowed.length; variable++) {
                allowed[variable] = numbers.allValues();
            }
        }

        void allowOnly(int variable, int value) {
            put(allowed, variable, at(allowed, variable) & 1 << value);
        }

        // ---- solutions

        int countSolutions() {
            allowAll();
            return completed(this, variables - 1, numbers.power(variables));
        }

        boolean hasSolution() {
            return completed(this, variables - 1, 1) > 0;
        }

        /** The last variable weighs most in a code and is tried first, so that the first solution is the lowest. */
        int lowestSolution() {
            allowAll();
            if (!hasSolution()) {
                return NONE;
            }
            int lowest = 0;
            for (int variable = variables - 1; variable >= 0; variable--) {
                lowest = lowest * numbers.many + at(tried, variable);
            }
            return lowest;
        }

        /**
         * Tries values of a variable and of all before it; returns how many solutions come so, but stops at some,
         * with the last one in `tried`. The variable falls from call to call, from 5 at most.
         */
        private static int completed(Instance instance, int variable, int most) {
            if (variable < 0) {
                return 1;
            }
            int found = 0;
            for (int value = 0; value < instance.numbers.many && found < most; value++) {
                if (isIn(value, at(instance.allowed, variable))) {
                    put(instance.tried, variable, value);
                    if (instance.holdsFrom(variable)) {
                        found += completed(instance, variable - 1, most - found);
                    }
                }
            }
            return found;
        }

        /** Whether all constraints hold that can be looked at since this variable has a value, and not before. */
        private boolean holdsFrom(int variable) {
            for (int constraint = 0; constraint < constraints; constraint++) {
                if (at(lowestVariables, constraint) == variable && !holds(constraint)) {
                    return false;
                }
            }
            return true;
        }

        private boolean holds(int constraint) {
            int tuple = 0;
            for (int place = placesOf(constraint) - 1; place >= 0; place--) {
                tuple = tuple * numbers.many + at(tried, variableOn(constraint, place));
            }
            return isIn(tuple, template.tuplesOf(at(relations, constraint)));
        }

        int countByTryingAll() {
            for (int variable = 0; variable < tried.length; variable++) {
                tried[variable] = 0;
            }
            int found = 0;
            for (int tries = numbers.power(variables); tries > 0; tries--) {
                if (holdsEverywhere()) {
                    found++;
                }
                stepOn();
            }
            return found;
        }

        private boolean holdsEverywhere() {
            for (int constraint = 0; constraint < constraints; constraint++) {
                if (!holds(constraint)) {
                    return false;
                }
            }
            return true;
        }

        private void stepOn() {
            for (int variable = 0; variable < variables; variable++) {
                int next = at(tried, variable) + 1;
                if (next < numbers.many) {
                    put(tried, variable, next);
                    return;
                }
                put(tried, variable, 0);
            }
        }

        // ---- values that are left

        /** The tuples that can stand in a constraint. */
        int standing(int constraint) {
            int tuples = template.tuplesOf(at(relations, constraint));
            int standing = 0;
            for (int tuple = 0; tuple < numbers.power(placesOf(constraint)); tuple++) {
                if (isIn(tuple, tuples) && isLikeOnLike(constraint, tuple)) {
                    standing |= 1 << tuple;
                }
            }
            return standing;
        }

        private boolean isLikeOnLike(int constraint, int tuple) {
            for (int place = 0; place < placesOf(constraint); place++) {
                for (int other = 0; other < place; other++) {
                    if (variableOn(constraint, place) == variableOn(constraint, other)
                            && numbers.digit(tuple, place) != numbers.digit(tuple, other)) {
                        return false;
                    }
                }
            }
            return true;
        }

        int valuesLeft(int variable) {
            allowAll();
            // Each round but the last one takes a value of a variable away.
            for (int round = 0; round <= 3 * MOST_VARIABLES; round++) {
                if (!isSomethingTakenAway()) {
                    break;
                }
            }
            return at(allowed, variable);
        }

        private boolean isSomethingTakenAway() {
            boolean isTaken = false;
            for (int constraint = 0; constraint < constraints; constraint++) {
                for (int place = 0; place < placesOf(constraint); place++) {
                    int variable = variableOn(constraint, place);
                    int before = at(allowed, variable);
                    int after = before & supported(constraint, place);
                    if (after != before) {
                        put(allowed, variable, after);
                        isTaken = true;
                    }
                }
            }
            return isTaken;
        }

        /** The values on a place of the tuples that can stand and have on all places values that are left. */
        private int supported(int constraint, int place) {
            int standing = standing(constraint);
            int supported = 0;
            for (int tuple = 0; tuple < numbers.power(placesOf(constraint)); tuple++) {
                if (isIn(tuple, standing) && isLeft(constraint, tuple)) {
                    supported |= 1 << numbers.digit(tuple, place);
                }
            }
            return supported;
        }

        private boolean isLeft(int constraint, int tuple) {
            for (int place = 0; place < placesOf(constraint); place++) {
                if (!isIn(numbers.digit(tuple, place), at(allowed, variableOn(constraint, place)))) {
                    return false;
                }
            }
            return true;
        }
    }

    /** The pairs of values that are left of any two variables of an instance. */
    private static final class Pairs {
        private final Numbers numbers;
        private final Instance instance;
        private final int[] left = new int[MOST_VARIABLES * MOST_VARIABLES];

        Pairs(Numbers numbers, Instance instance) {
            this.numbers = numbers;
            this.instance = instance;
        }

        int ofVariables(int first, int second) {
            leaveAtFirst();
            // Each round but the last one takes a pair of two variables away.
            for (int round = 0; round <= 9 * left.length; round++) {
                if (!isSomethingTakenAway()) {
                    break;
                }
            }
            return leftOf(first, second);
        }

        private int leftOf(int first, int second) {
            return at(left, MOST_VARIABLES * first + second);
        }

        private void setLeft(int first, int second, int pairs) {
            put(left, MOST_VARIABLES * first + second, pairs);
        }

        private void leaveAtFirst() {
            for (int i = 0; i < left.length; i++) {
                left[i] = (1 << numbers.power(2)) - 1;
            }
            for (int constraint = 0; constraint < instance.constraints; constraint++) {
                int standing = instance.standing(constraint);
                for (int first = 0; first < instance.variableCount(); first++) {
                    for (int second = 0; second < first; second++) {
                        leaveStanding(constraint, standing, first, second);
                        leaveStanding(constraint, standing, second, first);
                    }
                }
            }
        }

        /** Leaves the pairs of values with which a tuple can stand in a constraint. */
        private void leaveStanding(int constraint, int standing, int first, int second) {
            int pairs = 0;
            for (int tuple = 0; tuple < numbers.power(instance.placesOf(constraint)); tuple++) {
                if (isIn(tuple, standing)) {
                    int firstValues = valuesWith(constraint, tuple, first);
                    int secondValues = valuesWith(constraint, tuple, second);
                    for (int value = 0; value < numbers.many; value++) {
                        pairs |= isIn(value, secondValues) ? firstValues << numbers.many * value : 0;
                    }
                }
            }
            setLeft(first, second, pairs & leftOf(first, second));
        }

        /** The values of a variable with which a tuple stands: any, if the variable has no place there. */
        private int valuesWith(int constraint, int tuple, int variable) {
            for (int place = 0; place < instance.placesOf(constraint); place++) {
                if (instance.variableOn(constraint, place) == variable) {
                    return 1 << numbers.digit(tuple, place);
                }
            }
            return numbers.allValues();
        }

        private boolean isSomethingTakenAway() {
            boolean isTaken = false;
            for (int first = 0; first < instance.variableCount(); first++) {
                for (int second = 0; second < instance.variableCount(); second++) {
                    for (int third = 0; third < instance.variableCount(); third++) {
                        boolean areUnlike = first != second && first != third && second != third;
                        if (areUnlike && takesAway(first, second, third)) {
                            isTaken = true;
                        }
                    }
                }
            }
            return isTaken;
        }

        /** Takes the pairs away that have no value of the third variable between them; tells whether there are any. */
        private boolean takesAway(int first, int second, int third) {
            int before = leftOf(first, second);
            int after = before & joined(leftOf(first, third), leftOf(third, second));
            setLeft(first, second, after);
            return after != before;
        }

        /** The pairs that have a value between them: with the first of them in one set, with the second in another. */
        private int joined(int firstPairs, int secondPairs) {
            int pairs = 0;
            for (int pair = 0; pair < numbers.power(2); pair++) {
                if (isIn(pair, firstPairs)) {
                    int between = numbers.digit(pair, 1);
                    for (int value = 0; value < numbers.many; value++) {
                        boolean isNext = isIn(between + numbers.many * value, secondPairs);
                        pairs |= isNext ? 1 << numbers.digit(pair, 0) + numbers.many * value : 0;
                    }
                }
            }
            return pairs;
        }
    }
}
