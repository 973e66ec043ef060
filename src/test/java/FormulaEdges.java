/** The tape and its formulas, sentence by sentence: the terms of them, and the promises 21 to 24. */
final class FormulaEdges extends Checks {
    private static final String SIGNS = "abcdef01234567(),=&:";
    /** Sixty characters that are only the beginning of a formula. */
    private static final String SHORT_BY_ONE = "a:" + "a=a&".repeat(14) + "a=";

    private FormulaEdges() { }

    static void check() {
        signs();
        variables();
        heads();
        atoms();
        numbersInAtoms();
        faults();
        relationsOfFormulas();
        type();
        refusedCharacters();
        refusedLengths();
        wipe();
        define();
        refusedDefine();
    }

    /** Relations of one, two and three places, or of two once more with three values. */
    private static Polymorphium withRelations(int many, String text) {
        Polymorphium p = houseWithTape(many, text);
        p.relation(1);
        p.relation(2);
        p.relation(most(many));
        return p;
    }

    private static void faultDue(int many, String text, int want) {
        due(text, withRelations(many, text).fault(), want);
    }

    /** What a formula defines from the relations: 0 is {0}, 1 has 1, 0 alone, and 2 has 0, 1, 1 alone. */
    private static int definedBy(String text) {
        Polymorphium p = house(2);
        relation(p, 1, 0);
        relation(p, 2, 1);
        relation(p, 3, 6);
        return defined(p, text);
    }

    // ---- terms

    private static void signs() {
        says(0, "The tape has at most 60 characters: a to f, 0 to 7, ( ) , = & and :.");
        for (int sign = 0; sign < 256; sign++) {
            boolean can = SIGNS.indexOf(sign) >= 0;
            long one = sign;
            due("the character " + sign, outcome(() -> house(2).type(one, 1)), can ? 1 : ARGUMENT);
        }
        Polymorphium p = houseWithTape(2, SIXTY);
        due("sixty", p.wipe(), 60);
        due("one more", outcome(() -> houseWithTape(2, SIXTY + "a")), STATE);
        due("sixty at once with what was wiped", outcome(() -> {
            Polymorphium q = houseWithTape(2, SIXTY);
            q.wipe();
            type(q, SIXTY);
            return q.wipe();
        }), 60);
    }

    private static void variables() {
        says(0, "Variables are a to f.");
        for (char variable = 'a'; variable <= 'f'; variable++) {
            faultDue(2, variable + ":" + variable + "=" + variable, NONE);
            faultDue(2, "a:0(" + variable + ")", NONE);
            faultDue(2, "a:2(a," + variable + "," + variable + ")", NONE);
        }
        for (char sign : "01234567(),=&:".toCharArray()) {
            if (sign != ':') {
                faultDue(2, "a" + sign, 1);
            }
            faultDue(2, "a:a=" + sign, 4);
            faultDue(2, "a:0(" + sign, 4);
        }
        due("the last one counts", definedBy("f:1(f,a)"), 2);
        due("so does it among the others", definedBy("a:1(f,a)&0(a)"), 1);
        for (char x = 'a'; x <= 'f'; x++) {
            for (char y = 'a'; y <= 'f'; y++) {
                if (x != y) {
                    String both = "" + x + y;
                    due(both + " alike", definedBy(both + ":" + x + "=" + y), 1 + 8);
                    due(both + " as told", definedBy(both + ":1(" + x + "," + y + ")"), 2);
                    due(both + " turned", definedBy(both + ":1(" + y + "," + x + ")"), 4);
                    due(both + " alike, behind others", definedBy(both + ":c=d&" + x + "=" + y), 1 + 8);
                    threeOf(x, y);
                }
            }
        }
    }

    private static void threeOf(char x, char y) {
        for (char z = 'a'; z <= 'f'; z++) {
            if (x != z && y != z) {
                String all = "" + x + y + z;
                due(all + " as told", definedBy(all + ":2(" + x + "," + y + "," + z + ")"), 64);
                due(all + " by turns", definedBy(all + ":2(" + y + "," + z + "," + x + ")"), 32);
            }
        }
    }

    private static void heads() {
        says(0, "A formula is its head, :, and one atom or more, with & between each two of them.");
        faultDue(2, "a:a=a", NONE);
        faultDue(2, "a:", 2);
        faultDue(2, "a:a=a&", 6);
        faultDue(2, "a:a=a&a=b", NONE);
        faultDue(2, "a:a=aa=b", 5);
        faultDue(2, "a:0(a)a=b", 6);
        faultDue(2, "a:&a=b", 2);
        faultDue(2, "a:a=a&&a=a", 6);
        faultDue(2, "aa=b", 1);
        faultDue(2, "a:a=b:a=b", 5);
        says(0, "The head is one variable or more, unlike, as many as a relation has places at most.");
        for (int d : BOTH) {
            faultDue(d, "", 0);
            faultDue(d, ":a=a", 0);
            faultDue(d, "a:a=a", NONE);
            faultDue(d, "ab:a=a", NONE);
            faultDue(d, "abc:a=a", d == 2 ? NONE : 2);
            faultDue(d, "abcd:a=a", most(d));
            faultDue(d, "fe:a=a", NONE);
            faultDue(d, "aa:a=a", 1);
            faultDue(d, "aba:a=a", 2);
        }
        faultDue(2, "abb:a=a", 2);
        faultDue(2, "fde:a=a", NONE);
        // At the beginning of its atoms, before any of them, and at its end the head may be too short.
        faultDue(2, "abc", 3);
        faultDue(3, "ab", 2);
        faultDue(2, "abc:", 4);
    }

    private static void atoms() {
        says(0, "An atom is a variable, = and a variable, or the number of a relation, (, as many variables as that "
                + "has places, with a comma between each two of them, and ).");
        faultDue(2, "a:a", 3);
        faultDue(2, "a:a=", 4);
        faultDue(2, "a:a=f", NONE);
        faultDue(2, "a:a=b=c", 5);
        faultDue(2, "a:a(", 3);
        faultDue(2, "a:=a", 2);
        faultDue(2, "a:0", 3);
        faultDue(2, "a:0(", 4);
        faultDue(2, "a:0()", 4);
        faultDue(2, "a:0(a", 5);
        faultDue(2, "a:0(a)", NONE);
        faultDue(2, "a:0(a,", 5);
        faultDue(2, "a:0(a))", 6);
        faultDue(2, "a:0=a", 3);
        faultDue(2, "a:00", 3);
        faultDue(2, "a:1(a)", 5);
        faultDue(2, "a:1(ab", 5);
        faultDue(2, "a:1(a,", 6);
        faultDue(2, "a:1(a,)", 6);
        faultDue(2, "a:1(a,b", 7);
        faultDue(2, "a:1(a,b)", NONE);
        faultDue(2, "a:1(a,b,", 7);
        faultDue(2, "a:2(a,b)", 7);
        faultDue(2, "a:2(a,b,", 8);
        faultDue(2, "a:2(a,b,c", 9);
        faultDue(2, "a:2(a,b,c)", NONE);
        faultDue(2, "a:2(a,b,c,", 9);
        faultDue(2, "a:2(f,f,f)", NONE);
        faultDue(3, "a:2(a,b)", NONE);
        faultDue(3, "a:2(a,b,", 7);
    }

    private static void numbersInAtoms() {
        says(0, "or the number of a relation,");
        for (int relations = 0; relations <= 8; relations++) {
            for (int number = 0; number < 8; number++) {
                Polymorphium p = houseWithTape(2, "a:" + number + "(a)");
                for (int i = 0; i < relations; i++) {
                    p.relation(1);
                }
                due(number + " of " + relations, p.fault(), number < relations ? NONE : 2);
            }
        }
        Polymorphium p = houseWithTape(2, "a:1(a,a)");
        due("not there yet", p.fault(), 2);
        p.relation(1);
        due("nor now", p.fault(), 2);
        p.relation(2);
        due("there now", p.fault(), NONE);
        p.values(2);
        due("not there any more", p.fault(), 2);
        p.relation(1);
        p.relation(1);
        due("there with fewer places", p.fault(), 5);
        Polymorphium last = house(2);
        fillRelations(last);
        last.tuple(7, 1, true);
        type(last, "a:7(a)");
        due("the last one", last.fault(), NONE);
    }

    private static void faults() {
        says(0, "The fault of the tape is the place, from 0 on, of the first character with which it cannot be the "
                + "beginning of a formula, or its length, if it is only too short;");
        faultDue(2, "", 0);
        for (char sign : "01234567(),=&:".toCharArray()) {
            faultDue(2, "" + sign, 0);
        }
        faultDue(2, "a", 1);
        faultDue(2, "aa&&&", 1);
        faultDue(2, "a:a=a" + "&0(a)".repeat(10) + "&0(a", 59);
        faultDue(2, SHORT_BY_ONE, 60);
        faultDue(2, SIXTY.substring(0, 59) + "a", 59);
        faultDue(2, SIXTY.substring(0, 58) + ",)", 58);
        faultDue(2, ":" + SIXTY.substring(1), 0);
        faultDue(2, SIXTY.substring(0, 59), 59);
        says(0, "NONE, if it is a formula.");
        faultDue(2, SIXTY, NONE);
        faultDue(3, SIXTY, NONE);
        faultDue(2, "a:a=a", NONE);
        says(23, "Returns the fault of the tape.");
        // Each beginning of a formula is too short, but for those that are formulas themselves.
        String text = "ab:a=c&1(c,b)&0(a)&2(a,b,c)";
        for (int length = 0; length <= text.length(); length++) {
            boolean isFormula = length == 6 || length == 13 || length == 18 || length == 27;
            faultDue(2, text.substring(0, length), isFormula ? NONE : length);
            for (char sign : SIGNS.toCharArray()) {
                int fault = withRelations(2, text.substring(0, length) + sign).fault();
                due(text.substring(0, length) + sign, fault != length, mayCome(text, length).indexOf(sign) >= 0);
            }
        }
    }

    /** Which characters may come at a place of the text above. */
    private static String mayCome(String text, int at) {
        if (at < 3) {
            return new String[] {"abcdef", ":bcdef", ":cdef"}[at];
        }
        if (at == text.length()) {
            return "&";
        }
        char before = text.charAt(at - 1);
        char next = text.charAt(at);
        return before == ':' || before == '&' ? "abcdef012" : next >= 'a' && next <= 'f' ? "abcdef" : "" + next;
    }

    private static void relationsOfFormulas() {
        says(0, "The relation of a formula has as many places as its head has variables, and those tuples with "
                + "which, as values of these variables, there are values of all others so that each atom with = has "
                + "like values, and each other one has a tuple of its relation.");
        for (int d : BOTH) {
            for (String head : d == 2 ? new String[] {"a", "ab", "abc"} : new String[] {"a", "ab"}) {
                Polymorphium p = houseWithTape(d, head + ":d=d");
                due("places of " + head, p.ofRelation(p.define(), 0), head.length());
                due("all tuples of " + head, p.ofRelation(0, 1), (1 << power(d, head.length())) - 1);
            }
        }
        due("a variable with itself", definedBy("a:a=a"), 3);
        due("like values", definedBy("abc:a=b&b=c"), 1 + 128);
        due("1, 0", definedBy("ab:1(a,b)"), 2);
        due("0, 1, for the head is turned", definedBy("ba:1(a,b)"), 4);
        due("0, 1, 1", definedBy("abc:2(a,b,c)"), 64);
        due("1, 1, 0, for the head is turned", definedBy("cba:2(a,b,c)"), 8);
        due("others have values", definedBy("a:1(a,f)"), 2);
        due("others have none", definedBy("a:1(f,f)"), 0);
        due("others have one value each", definedBy("a:1(b,c)&1(c,b)"), 0);
        due("the same variable several times", definedBy("a:2(a,b,b)"), 1);
        due("none with it several times", definedBy("a:2(a,a,b)"), 0);
        due("all six variables", definedBy("abc:1(a,d)&1(b,e)&1(c,f)"), 128);
        due("all six of like values", definedBy("af:a=b&b=c&c=d&d=e&e=f"), 1 + 8);
        due("an empty relation", definedEmpty("a:0(b)"), 0);
        due("the first atom counts", definedBy("a:0(a)&a=b&b=c"), 1);
        due("the last atom counts", definedBy("a:a=b&b=c&0(c)"), 1);
        due("the last of sixty characters counts", definedBy(SIXTY), 1);
        due("the last of fourteen atoms counts", definedBy("ab:" + "c=c&".repeat(13) + "a=b"), 1 + 8);
        due("of most atoms the first counts", definedBy("ab:a=b" + "&c=c".repeat(13)), 1 + 8);
    }

    private static int definedEmpty(String text) {
        Polymorphium p = house(2);
        p.relation(1);
        return defined(p, text);
    }

    // ---- promises 21 and 22

    private static void type() {
        says(21, "Types characters.");
        Polymorphium p = house(2);
        type(p, "a:a=");
        type(p, "a");
        due("behind those that are there", p.fault(), NONE);
        says(21, "`characters`: the first one in the lowest 8 bits, and so on");
        Polymorphium eight = house(2);
        relation(eight, 2, 1);
        due("eight", eight.type(packed("a:0(a,b)"), 8), 8);
        due("in their order", eight.ofRelation(eight.define(), 1), 2);
        for (int n = 1; n < 8; n++) {
            // What lies above the n characters does not count, whatever it is.
            for (long above : new long[] {0, -1L, Long.MIN_VALUE, Long.MAX_VALUE}) {
                long characters = above << 8 * n | packed("a:a=a&b=".substring(0, n));
                int many = n;
                due(n + " of " + above, outcome(() -> house(2).type(characters, many)), n);
            }
        }
        due("the least long and a", outcome(() -> house(2).type(Long.MIN_VALUE | 'a', 1)), 1);
        due("the least long and seven", outcome(() -> house(2).type(Long.MIN_VALUE | packed("a:a=b&c"), 7)), 7);
        says(21, "`n`: 1 to 8");
        due("the least", outcome(() -> house(2).type(packed("a:a=a&b="), 1)), 1);
        due("the greatest", outcome(() -> house(2).type(packed("a:a=a&b="), 8)), 8);
        says(21, "Returns how many the tape has then.");
        Polymorphium q = house(2);
        for (int i = 1; i <= 60; i++) {
            due("one by one", q.type('a', 1), i);
        }
        Polymorphium r = house(2);
        for (int n = 1, sum = 1; n <= 8; sum += ++n) {
            due("by more and more", r.type(packed("abcdefab"), n), sum);
        }
    }

    private static void refusedCharacters() {
        says(21, "Throws `IllegalArgumentException` if n is out of range, or one of the n characters cannot be on "
                + "the tape");
        int[] numbers = outside(1, 8);
        refusesAll("n, an empty tape,", () -> house(2), ARGUMENT, numbers, (p, n) -> p.type(packed("abcdefab"), n));
        refusesAll("n, some tape,", () -> furnished(2), ARGUMENT, numbers, (p, n) -> p.type(packed("abcdefab"), n));
        // It is named first, so that it is thrown too if the tape would have more than 60.
        refusesAll("n, a full tape,", () -> full(2), ARGUMENT, numbers, (p, n) -> p.type(packed("abcdefab"), n));
        for (long all : new long[] {0, 1, -1L, Long.MIN_VALUE, Long.MAX_VALUE, Integer.MIN_VALUE, Integer.MAX_VALUE}) {
            int[] many = {1, 2, 7, 8};
            refusesAll("n signs of " + all, () -> furnished(3), ARGUMENT, many, (p, n) -> p.type(all, n));
            refusesAll("n signs, full, of " + all, () -> full(3), ARGUMENT, many, (p, n) -> p.type(all, n));
        }
        for (int place = 0; place < 8; place++) {
            for (char sign : "`g/8'*+->;<%9 A\0\u0080\u00e1\u00ff".toCharArray()) {
                String text = "a=a&a=a&".substring(0, place) + sign + "a=a&a=a&".substring(place + 1);
                int at = place;
                refuses((int) sign + " on place " + place, () -> furnished(2), ARGUMENT, p -> p.type(packed(text), 8));
                refuses("just the last", () -> furnished(2), ARGUMENT, p -> p.type(packed(text), at + 1));
                refuses("a full tape too", () -> full(2), ARGUMENT, p -> p.type(packed(text), at + 1));
            }
        }
    }

    private static void refusedLengths() {
        says(21, "Throws `IllegalStateException` if the tape would have more than 60");
        for (int n = 1; n <= 8; n++) {
            int many = n;
            String text = SIXTY.substring(0, 60 - n);
            Polymorphium p = houseWithTape(2, text);
            p.relation(1);
            due("the last " + n, p.type(packed(SIXTY.substring(60 - n)), n), 60);
            due("as they are typed", p.fault(), NONE);
            refuses(n + ", one too many", () -> houseWithTape(2, SIXTY.substring(0, 61 - many)), STATE,
                    q -> q.type(packed("a=a&a=a&"), many));
            refuses(n + " to a full tape", () -> full(2), STATE, q -> q.type(packed("a=a&a=a&"), many));
        }
        // What was refused leaves the tape as it was: the rest of a formula can still be typed.
        Polymorphium p = houseWithTape(2, SIXTY.substring(0, 55));
        p.relation(1);
        outcome(() -> p.type(packed("&a=a&a=a"), 8));
        outcome(() -> p.type(packed("&0(a*"), 5));
        due("the rest", p.type(packed("&0(a)"), 5), 60);
        due("all of it", p.fault(), NONE);
    }

    private static void wipe() {
        says(22, "Empties the tape;");
        for (int d : BOTH) {
            Polymorphium p = full(d);
            p.wipe();
            due("nothing is on it", p.fault(), 0);
            due("and there is room for all", p.type('a', 1), 1);
        }
        says(22, "returns how many characters it had.");
        due("none", house(2).wipe(), 0);
        due("one", houseWithTape(2, ":").wipe(), 1);
        due("sixty", houseWithTape(2, SIXTY).wipe(), 60);
        Polymorphium p = houseWithTape(2, SIXTY);
        p.wipe();
        due("none any more", p.wipe(), 0);
    }

    // ---- promise 24

    private static void define() {
        says(24, "Makes the relation of the formula on the tape, as the relations are now;");
        Polymorphium p = houseWithTape(2, "a:0(a)");
        relation(p, 1, 0);
        p.tuple(0, 0, false);
        p.tuple(0, 1, true);
        due("as it is now", p.ofRelation(p.define(), 1), 2);
        p.tuple(0, 1, false);
        due("it stays as it was then", p.ofRelation(1, 1), 2);
        due("it can be changed", p.tuple(1, 0, true), false);
        due("and is", p.ofRelation(1, 1), 3);
        Polymorphium others = full(2);
        String before = others.solutions() + " " + others.code(5) + " " + others.left(5);
        outcome(others::define);
        due("all else stays", others.solutions() + " " + others.code(5) + " " + others.left(5), before);
        says(24, "the tape is empty then.");
        Polymorphium q = houseWithTape(2, SIXTY);
        q.relation(1);
        q.define();
        due("it has no characters", q.fault() + " " + q.wipe(), "0 0");
        due("a second time it is no formula", outcome(q::define), ARGUMENT);
        says(24, "Returns its number.");
        Polymorphium r = house(3);
        for (int number = 0; number < 8; number++) {
            type(r, "a:a=b");
            due("number", r.define(), number);
        }
        type(r, "a:7(a)");
        due("all of them can be named", r.fault(), NONE);
    }

    private static void refusedDefine() {
        says(24, "Throws `IllegalArgumentException` if the tape is no formula;");
        refuses("an empty tape", () -> house(2), ARGUMENT, p -> p.define());
        refuses("wrong at once", () -> houseWithTape(2, ":"), ARGUMENT, p -> p.define());
        refuses("too short", () -> houseWithTape(2, "a:a="), ARGUMENT, p -> p.define());
        refuses("too long", () -> houseWithTape(2, "a:a=aa"), ARGUMENT, p -> p.define());
        refuses("sixty, too short", () -> houseWithTape(2, SHORT_BY_ONE), ARGUMENT, p -> p.define());
        refuses("sixty, of no relation", () -> houseWithTape(2, SIXTY), ARGUMENT, p -> p.define());
        refuses("of three variables with 3", () -> houseWithTape(3, "abc:a=a"), ARGUMENT, p -> p.define());
        refuses("of no relation", () -> withRelations(3, "a:3(a)"), ARGUMENT, p -> p.define());
        // It is named first, so that it is thrown too if there are 8 relations.
        refuses("with 8 relations", () -> {
            Polymorphium p = full(2);
            p.wipe();
            type(p, "a:0(a");
            return p;
        }, ARGUMENT, p -> p.define());
        refuses("with 8 relations and an empty tape", () -> {
            Polymorphium p = full(3);
            p.wipe();
            return p;
        }, ARGUMENT, p -> p.define());
        says(24, "its cause tells where");
        // A written text is all that an exception may hold, so that the place is asked of the tape, which stays.
        Polymorphium wrong = houseWithTape(2, "ab:a=b&");
        due("the exception", outcome(wrong::define), ARGUMENT);
        due("the place", wrong.fault(), 7);
        says(24, "Throws `IllegalStateException` if there are 8 relations");
        refuses("a full house", () -> full(2), STATE, p -> p.define());
        refuses("a full house of 3", () -> full(3), STATE, p -> p.define());
        Polymorphium p = full(2);
        outcome(p::define);
        due("the tape stays then", p.wipe(), 60);
        Polymorphium eighth = houseWithTape(2, "a:a=a");
        for (int i = 0; i < 7; i++) {
            eighth.relation(1);
        }
        due("the eighth", eighth.define(), 7);
    }
}
