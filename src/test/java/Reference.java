import java.util.ArrayList;
import java.util.HashSet;
import java.util.LinkedHashSet;
import java.util.List;
import java.util.Set;
import java.util.TreeSet;
import java.util.regex.Matcher;
import java.util.regex.Pattern;

/**
 * The document once more, as literally as may be and as slowly as it likes: tuples are lists, sets are sets, every
 * question is answered by trying everything. It shares no code with the class, so that both can be compared.
 */
final class Reference {
    private record Relation(int places, Set<List<Integer>> tuples) { }

    private record Constraint(int relation, List<Integer> variables) { }

    private record Operation(int places, int[] table) { }

    private int d;
    private List<Relation> relations;
    private List<Operation> operations;
    private int variables;
    private List<Constraint> constraints;
    private final StringBuilder tape = new StringBuilder();

    Reference() {
        anew(2);
    }

    private void anew(int many) {
        d = many;
        relations = new ArrayList<>();
        operations = new ArrayList<>();
        variables = 1;
        constraints = new ArrayList<>();
    }

    // ---- codes

    private int codeOf(List<Integer> tuple) {
        int code = 0;
        for (int i = tuple.size() - 1; i >= 0; i--) {
            code = code * d + tuple.get(i);
        }
        return code;
    }

    private List<Integer> tupleOf(int code, int places) {
        List<Integer> tuple = new ArrayList<>();
        for (int i = 0; i < places; i++) {
            tuple.add(code % d);
            code /= d;
        }
        return tuple;
    }

    private List<List<Integer>> allTuples(int places) {
        List<List<Integer>> all = new ArrayList<>();
        for (int code = 0; code < power(d, places); code++) {
            all.add(tupleOf(code, places));
        }
        return all;
    }

    private static int power(int base, int n) {
        int power = 1;
        for (int i = 0; i < n; i++) {
            power *= base;
        }
        return power;
    }

    private int bits(Set<List<Integer>> tuples) {
        int bits = 0;
        for (List<Integer> tuple : tuples) {
            bits |= 1 << codeOf(tuple);
        }
        return bits;
    }

    private static void need(boolean good, RuntimeException otherwise) {
        if (!good) {
            throw otherwise;
        }
    }

    private Relation relationAt(int number) {
        need(number >= 0 && number < relations.size(), new IndexOutOfBoundsException());
        return relations.get(number);
    }

    private Operation operationAt(int number) {
        need(number >= 0 && number < operations.size(), new IndexOutOfBoundsException());
        return operations.get(number);
    }

    // ---- values, relations

    int values(int many) {
        need(many == 2 || many == 3, new IllegalArgumentException());
        int before = d;
        anew(many);
        return before;
    }

    int relation(int places) {
        need(places >= 1 && places <= (d == 2 ? 3 : 2), new IllegalArgumentException());
        need(relations.size() < 8, new IllegalStateException());
        relations.add(new Relation(places, new HashSet<>()));
        return relations.size() - 1;
    }

    boolean tuple(int relation, int tuple, boolean is) {
        Relation r = relationAt(relation);
        need(tuple >= 0 && tuple < power(d, r.places), new IndexOutOfBoundsException());
        List<Integer> t = tupleOf(tuple, r.places);
        return is ? !r.tuples.add(t) : r.tuples.remove(t);
    }

    int ofRelation(int relation, int what) {
        Relation r = relationAt(relation);
        need(what >= 0 && what <= 2, new IllegalArgumentException());
        return what == 0 ? r.places : what == 1 ? bits(r.tuples) : r.tuples.size();
    }

    // ---- operations

    private int applied(Operation f, List<Integer> point) {
        return f.table[codeOf(point)];
    }

    private int applied(Operation f, int... point) {
        List<Integer> list = new ArrayList<>();
        for (int value : point) {
            list.add(value);
        }
        return applied(f, list);
    }

    private interface Rule {
        int answer(List<Integer> point);
    }

    private Operation table(int places, Rule rule) {
        int[] table = new int[power(d, places)];
        for (List<Integer> point : allTuples(places)) {
            table[codeOf(point)] = rule.answer(point);
        }
        return new Operation(places, table);
    }

    int operation(int places) {
        need(places >= 1 && places <= 3, new IllegalArgumentException());
        need(operations.size() < 6, new IllegalStateException());
        operations.add(table(places, p -> p.get(0)));
        return operations.size() - 1;
    }

    private Operation affine() {
        return table(3, p -> Math.floorMod(p.get(0) - p.get(1) + p.get(2), d));
    }

    int make(int what) {
        need(what >= 0 && what <= 4, new IllegalArgumentException());
        need(operations.size() < 6, new IllegalStateException());
        operations.add(switch (what) {
            case 0 -> table(2, p -> Math.min(p.get(0), p.get(1)));
            case 1 -> table(2, p -> Math.max(p.get(0), p.get(1)));
            case 2 -> table(3, p -> p.stream().sorted().toList().get(1));
            case 3 -> affine();
            default -> table(1, p -> (p.get(0) + 1) % d);
        });
        return operations.size() - 1;
    }

    int answers(int operation, int point, int value) {
        Operation f = operationAt(operation);
        need(point >= 0 && point < f.table.length, new IndexOutOfBoundsException());
        need(value >= 0 && value < d, new IllegalArgumentException());
        int before = f.table[point];
        f.table[point] = value;
        return before;
    }

    private long codeOf(Operation f) {
        long code = 0;
        long weight = 1;
        for (int answer : f.table) {
            code += answer * weight;
            weight *= d;
        }
        return code;
    }

    long code(int operation) {
        return codeOf(operationAt(operation));
    }

    /** All that comes by applying f to tuples of a set. */
    private Set<List<Integer>> images(Operation f, int width, Set<List<Integer>> tuples) {
        Set<List<Integer>> images = new HashSet<>();
        List<List<List<Integer>>> choices = new ArrayList<>();
        choices.add(List.of());
        for (int i = 0; i < f.places; i++) {
            List<List<List<Integer>>> longer = new ArrayList<>();
            for (List<List<Integer>> choice : choices) {
                for (List<Integer> tuple : tuples) {
                    List<List<Integer>> more = new ArrayList<>(choice);
                    more.add(tuple);
                    longer.add(more);
                }
            }
            choices = longer;
        }
        for (List<List<Integer>> choice : choices) {
            images.add(image(f, width, choice));
        }
        return images;
    }

    private List<Integer> image(Operation f, int width, List<List<Integer>> choice) {
        List<Integer> image = new ArrayList<>();
        for (int place = 0; place < width; place++) {
            List<Integer> point = new ArrayList<>();
            for (List<Integer> tuple : choice) {
                point.add(tuple.get(place));
            }
            image.add(applied(f, point));
        }
        return image;
    }

    private boolean isKept(Operation f, Relation r) {
        return r.tuples.containsAll(images(f, r.places, r.tuples));
    }

    boolean keeps(int operation, int relation) {
        return isKept(operationAt(operation), relationAt(relation));
    }

    int breaks(int operation, int relation) {
        Operation f = operationAt(operation);
        Relation r = relationAt(relation);
        int lowest = -1;
        for (List<Integer> image : images(f, r.places, r.tuples)) {
            if (!r.tuples.contains(image) && (lowest < 0 || codeOf(image) < lowest)) {
                lowest = codeOf(image);
            }
        }
        return lowest;
    }

    private boolean isIdempotent(Operation f) {
        for (List<Integer> point : allTuples(f.places)) {
            if (new HashSet<>(point).size() == 1 && applied(f, point) != point.get(0)) {
                return false;
            }
        }
        return true;
    }

    private boolean isSymmetric(Operation f) {
        for (List<Integer> point : allTuples(f.places)) {
            for (List<Integer> other : allTuples(f.places)) {
                boolean isReordered = point.stream().sorted().toList().equals(other.stream().sorted().toList());
                if (isReordered && applied(f, point) != applied(f, other)) {
                    return false;
                }
            }
        }
        return true;
    }

    private boolean isAssociative(Operation f) {
        if (f.places != 2) {
            return false;
        }
        for (List<Integer> t : allTuples(3)) {
            int x = t.get(0);
            int y = t.get(1);
            int z = t.get(2);
            if (applied(f, x, applied(f, y, z)) != applied(f, applied(f, x, y), z)) {
                return false;
            }
        }
        return true;
    }

    private boolean isMajority(Operation f) {
        if (f.places != 3) {
            return false;
        }
        for (List<Integer> point : allTuples(3)) {
            for (int x = 0; x < d; x++) {
                int value = x;
                if (point.stream().filter(v -> v == value).count() >= 2 && applied(f, point) != x) {
                    return false;
                }
            }
        }
        return true;
    }

    private boolean isMaltsev(Operation f) {
        if (f.places != 3) {
            return false;
        }
        for (List<Integer> t : allTuples(2)) {
            int x = t.get(0);
            int y = t.get(1);
            if (applied(f, x, y, y) != x || applied(f, y, y, x) != x) {
                return false;
            }
        }
        return true;
    }

    boolean has(int operation, int identity) {
        Operation f = operationAt(operation);
        need(identity >= 0 && identity <= 4, new IllegalArgumentException());
        return switch (identity) {
            case 0 -> isIdempotent(f);
            case 1 -> isSymmetric(f);
            case 2 -> isAssociative(f);
            case 3 -> isMajority(f);
            default -> isMaltsev(f);
        };
    }

    int closed(int operation, int relation) {
        Operation f = operationAt(operation);
        Relation r = relationAt(relation);
        Set<List<Integer>> closed = new HashSet<>(r.tuples);
        while (closed.addAll(images(f, r.places, closed))) {
            // as long as something comes
        }
        return bits(closed);
    }

    int monoid() {
        Set<List<Integer>> all = new LinkedHashSet<>();
        List<Integer> itself = new ArrayList<>();
        for (int x = 0; x < d; x++) {
            itself.add(x);
        }
        all.add(itself);
        boolean grows = true;
        while (grows) {
            grows = false;
            for (List<Integer> g : List.copyOf(all)) {
                for (Operation f : operations) {
                    if (f.places == 1) {
                        grows |= all.add(g.stream().map(x -> f.table[x]).toList());
                    }
                }
            }
        }
        return all.size();
    }

    int binary() {
        need(d == 2, new IllegalStateException());
        Set<List<Integer>> all = new HashSet<>();
        all.add(List.of(0, 1, 0, 1));
        all.add(List.of(0, 0, 1, 1));
        boolean grows = true;
        while (grows) {
            Set<List<Integer>> more = new HashSet<>(all);
            for (Operation f : operations) {
                more.addAll(images(f, 4, all));
            }
            grows = all.addAll(more);
        }
        int codes = 0;
        for (List<Integer> g : all) {
            codes |= 1 << g.get(0) + 2 * g.get(1) + 4 * g.get(2) + 8 * g.get(3);
        }
        return codes;
    }

    int kept(int places) {
        need(places == 1 || places == 2, new IllegalArgumentException());
        List<List<Integer>> all = allTuples(places);
        int kept = 0;
        for (int set = 0; set < 1 << all.size(); set++) {
            Set<List<Integer>> tuples = new HashSet<>();
            for (int i = 0; i < all.size(); i++) {
                if ((set >> i & 1) != 0) {
                    tuples.add(all.get(i));
                }
            }
            Relation r = new Relation(places, tuples);
            if (operations.stream().allMatch(f -> isKept(f, r))) {
                kept++;
            }
        }
        return kept;
    }

    // ---- templates

    /** All operations of some places that answer at each point one of some values. */
    private List<Operation> allOperations(int places, List<List<Integer>> choices) {
        List<Operation> all = new ArrayList<>();
        fill(places, choices, new int[choices.size()], choices.size() - 1, all);
        return all;
    }

    private void fill(int places, List<List<Integer>> choices, int[] table, int point, List<Operation> all) {
        if (point < 0) {
            all.add(new Operation(places, table.clone()));
            return;
        }
        for (int value : choices.get(point)) {
            table[point] = value;
            fill(places, choices, table, point - 1, all);
        }
    }

    private List<Operation> allOperations(int places) {
        List<Integer> any = d == 2 ? List.of(0, 1) : List.of(0, 1, 2);
        List<List<Integer>> choices = new ArrayList<>();
        for (int point = 0; point < power(d, places); point++) {
            choices.add(any);
        }
        return allOperations(places, choices);
    }

    private boolean keepsAllBut(Operation f, int leftOut) {
        for (int number = 0; number < relations.size(); number++) {
            if (number != leftOut && !isKeptFast(f, relations.get(number))) {
                return false;
            }
        }
        return true;
    }

    /** The same as isKept, but it stops at the first tuple that breaks. */
    private boolean isKeptFast(Operation f, Relation r) {
        List<List<Integer>> tuples = List.copyOf(r.tuples);
        if (tuples.isEmpty() || tuples.size() == power(d, r.places)) {
            return true;
        }
        int[] chosen = new int[f.places];
        while (true) {
            List<List<Integer>> choice = new ArrayList<>();
            for (int i : chosen) {
                choice.add(tuples.get(i));
            }
            if (!r.tuples.contains(image(f, r.places, choice))) {
                return false;
            }
            int place = 0;
            while (place < f.places && ++chosen[place] == tuples.size()) {
                chosen[place] = 0;
                place++;
            }
            if (place == f.places) {
                return true;
            }
        }
    }

    private List<Operation> candidates(int kind) {
        if (kind == 0) {
            return allOperations(1).stream().filter(f -> new HashSet<>(List.of(boxed(f.table))).size() == 1).toList();
        }
        if (kind == 1) {
            return allOperations(2).stream()
                    .filter(f -> isIdempotent(f) && isSymmetric(f) && isAssociative(f)).toList();
        }
        if (kind == 2) {
            List<List<Integer>> choices = new ArrayList<>();
            for (List<Integer> p : allTuples(3)) {
                Set<Integer> votes = new TreeSet<>();
                for (int x = 0; x < d; x++) {
                    int value = x;
                    if (p.stream().filter(v -> v == value).count() >= 2) {
                        votes.add(x);
                    }
                }
                choices.add(votes.isEmpty() ? List.of(0, 1, 2) : List.copyOf(votes));
            }
            return allOperations(3, choices);
        }
        return List.of(affine());
    }

    private static Integer[] boxed(int[] row) {
        Integer[] boxed = new Integer[row.length];
        for (int i = 0; i < row.length; i++) {
            boxed[i] = row[i];
        }
        return boxed;
    }

    long first(int kind) {
        need(kind >= 0 && kind <= 3, new IllegalArgumentException());
        long lowest = -1;
        for (Operation f : candidates(kind)) {
            if ((lowest < 0 || codeOf(f) < lowest) && keepsAllBut(f, -1)) {
                lowest = codeOf(f);
            }
        }
        return lowest;
    }

    int ends() {
        return (int) allOperations(1).stream().filter(f -> keepsAllBut(f, -1)).count();
    }

    int core() {
        return allOperations(1).stream().filter(f -> keepsAllBut(f, -1))
                .mapToInt(f -> new HashSet<>(List.of(boxed(f.table))).size()).min().orElseThrow();
    }

    int around(int relation) {
        Relation r = relationAt(relation);
        need(r.tuples.size() <= (d == 2 ? 3 : 2), new IllegalStateException());
        List<List<Integer>> rising = new ArrayList<>(r.tuples);
        rising.sort((s, t) -> codeOf(s) - codeOf(t));
        Set<List<Integer>> least = new HashSet<>();
        if (!rising.isEmpty()) {
            for (Operation f : allOperations(rising.size())) {
                List<Integer> image = image(f, r.places, rising);
                if (!least.contains(image) && keepsAllBut(f, relation)) {
                    least.add(image);
                }
            }
        }
        return bits(least);
    }

    // ---- formulas

    int type(long characters, int n) {
        need(n >= 1 && n <= 8, new IllegalArgumentException());
        StringBuilder typed = new StringBuilder();
        for (int i = 0; i < n; i++) {
            char c = (char) (characters >> 8 * i & 0xff);
            need("abcdef01234567(),=&:".indexOf(c) >= 0, new IllegalArgumentException());
            typed.append(c);
        }
        need(tape.length() + n <= 60, new IllegalStateException());
        return tape.append(typed).length();
    }

    int wipe() {
        int before = tape.length();
        tape.setLength(0);
        return before;
    }

    /** A formula as an expression without look-ahead, so that hitEnd tells that a text can go on to be one. */
    private Pattern formulas() {
        List<String> heads = new ArrayList<>();
        List<String> longest = List.of("");
        for (int places = 1; places <= (d == 2 ? 3 : 2); places++) {
            List<String> longer = new ArrayList<>();
            for (String head : longest) {
                for (String variable : "abcdef".split("")) {
                    if (!head.contains(variable)) {
                        longer.add(head + variable);
                    }
                }
            }
            heads.addAll(longer);
            longest = longer;
        }
        List<String> atoms = new ArrayList<>(List.of("[a-f]=[a-f]"));
        for (int number = 0; number < relations.size(); number++) {
            atoms.add(number + "\\([a-f]" + ",[a-f]".repeat(relations.get(number).places - 1) + "\\)");
        }
        String atom = "(?:" + String.join("|", atoms) + ")";
        return Pattern.compile("(?:" + String.join("|", heads) + "):" + atom + "(?:&" + atom + ")*");
    }

    int fault() {
        Pattern formulas = formulas();
        for (int length = 1; length <= tape.length(); length++) {
            Matcher matcher = formulas.matcher(tape.substring(0, length));
            if (!matcher.matches() && !matcher.hitEnd()) {
                return length - 1;
            }
        }
        return formulas.matcher(tape).matches() ? -1 : tape.length();
    }

    int define() {
        need(fault() == -1, new IllegalArgumentException());
        need(relations.size() < 8, new IllegalStateException());
        String text = tape.toString();
        String head = text.substring(0, text.indexOf(':'));
        Set<List<Integer>> tuples = new HashSet<>();
        for (List<Integer> assignment : allTuples(6)) {
            boolean holds = true;
            for (String atom : text.substring(head.length() + 1).split("&")) {
                List<Integer> valuesThere = new ArrayList<>();
                for (char c : atom.toCharArray()) {
                    if (c >= 'a' && c <= 'f') {
                        valuesThere.add(assignment.get(c - 'a'));
                    }
                }
                holds &= atom.contains("=") ? valuesThere.get(0).equals(valuesThere.get(1))
                        : relations.get(atom.charAt(0) - '0').tuples.contains(valuesThere);
            }
            if (holds) {
                tuples.add(head.chars().mapToObj(c -> assignment.get(c - 'a')).toList());
            }
        }
        relations.add(new Relation(head.length(), tuples));
        tape.setLength(0);
        return relations.size() - 1;
    }

    // ---- instances

    int instance(int howMany) {
        need(howMany >= 1 && howMany <= 6, new IllegalArgumentException());
        int before = constraints.size();
        variables = howMany;
        constraints = new ArrayList<>();
        return before;
    }

    int constrain(int relation, int first, int second, int third) {
        Relation r = relationAt(relation);
        List<Integer> told = List.of(first, second, third);
        for (int variable : told) {
            need(variable >= -1 && variable < variables, new IndexOutOfBoundsException());
        }
        for (int place = 0; place < 3; place++) {
            need((told.get(place) != -1) == (place < r.places), new IllegalArgumentException());
        }
        need(constraints.size() < 16, new IllegalStateException());
        constraints.add(new Constraint(relation, told.subList(0, r.places)));
        return constraints.size();
    }

    private boolean isSolution(List<Integer> assignment) {
        for (Constraint c : constraints) {
            if (!relations.get(c.relation).tuples.contains(c.variables.stream().map(assignment::get).toList())) {
                return false;
            }
        }
        return true;
    }

    int solutions() {
        return (int) allTuples(variables).stream().filter(this::isSolution).count();
    }

    int solutionsAnew() {
        return solutions();
    }

    int solve() {
        for (int code = 0; code < power(d, variables); code++) {
            if (isSolution(tupleOf(code, variables))) {
                return code;
            }
        }
        return -1;
    }

    private boolean canStand(Constraint c, List<Integer> tuple) {
        for (int p = 0; p < c.variables.size(); p++) {
            for (int q = 0; q < c.variables.size(); q++) {
                if (c.variables.get(p).equals(c.variables.get(q)) && !tuple.get(p).equals(tuple.get(q))) {
                    return false;
                }
            }
        }
        return relations.get(c.relation).tuples.contains(tuple);
    }

    int left(int variable) {
        need(variable >= 0 && variable < variables, new IndexOutOfBoundsException());
        List<Set<Integer>> left = new ArrayList<>();
        for (int v = 0; v < variables; v++) {
            left.add(new HashSet<>(d == 2 ? List.of(0, 1) : List.of(0, 1, 2)));
        }
        boolean takes = true;
        while (takes) {
            takes = false;
            for (int v = 0; v < variables && !takes; v++) {
                for (int value : List.copyOf(left.get(v))) {
                    if (mustGo(left, v, value)) {
                        left.get(v).remove(value);
                        takes = true;
                        break;
                    }
                }
            }
        }
        return left.get(variable).stream().mapToInt(value -> 1 << value).sum();
    }

    private boolean mustGo(List<Set<Integer>> left, int variable, int value) {
        for (Constraint c : constraints) {
            if (c.variables.contains(variable)) {
                boolean isSupported = false;
                for (List<Integer> tuple : allTuples(c.variables.size())) {
                    boolean supports = canStand(c, tuple);
                    for (int p = 0; p < c.variables.size(); p++) {
                        int there = c.variables.get(p);
                        supports &= there == variable ? tuple.get(p) == value : left.get(there).contains(tuple.get(p));
                    }
                    isSupported |= supports;
                }
                if (!isSupported) {
                    return true;
                }
            }
        }
        return false;
    }

    private boolean isLeftAtFirst(int i, int j, int x, int y) {
        for (Constraint c : constraints) {
            boolean stands = false;
            for (List<Integer> tuple : allTuples(c.variables.size())) {
                boolean fits = canStand(c, tuple);
                for (int p = 0; p < c.variables.size(); p++) {
                    fits &= c.variables.get(p) != i || tuple.get(p) == x;
                    fits &= c.variables.get(p) != j || tuple.get(p) == y;
                }
                stands |= fits;
            }
            if (!stands) {
                return false;
            }
        }
        return true;
    }

    int pairs(int first, int second) {
        need(first >= 0 && first < variables && second >= 0 && second < variables, new IndexOutOfBoundsException());
        need(first != second, new IllegalArgumentException());
        boolean[][][][] left = new boolean[variables][variables][d][d];
        for (int i = 0; i < variables; i++) {
            for (int j = 0; j < variables; j++) {
                for (int x = 0; x < d; x++) {
                    for (int y = 0; y < d; y++) {
                        left[i][j][x][y] = i != j && isLeftAtFirst(i, j, x, y);
                    }
                }
            }
        }
        boolean takes = true;
        while (takes) {
            takes = false;
            for (int i = 0; i < variables; i++) {
                for (int j = 0; j < variables; j++) {
                    for (int x = 0; x < d; x++) {
                        for (int y = 0; y < d; y++) {
                            if (i != j && left[i][j][x][y] && mustGo(left, i, j, x, y)) {
                                left[i][j][x][y] = false;
                                left[j][i][y][x] = false;
                                takes = true;
                            }
                        }
                    }
                }
            }
        }
        int pairs = 0;
        for (int x = 0; x < d; x++) {
            for (int y = 0; y < d; y++) {
                pairs |= left[first][second][x][y] ? 1 << x + d * y : 0;
            }
        }
        return pairs;
    }

    private boolean mustGo(boolean[][][][] left, int i, int j, int x, int y) {
        for (int k = 0; k < variables; k++) {
            if (k != i && k != j) {
                boolean isBetween = false;
                for (int z = 0; z < d; z++) {
                    isBetween |= left[i][k][x][z] && left[k][j][z][y];
                }
                if (!isBetween) {
                    return true;
                }
            }
        }
        return false;
    }
}
