import java.lang.reflect.Method;
import java.lang.reflect.Modifier;
import java.util.Arrays;

/**
 * Makes each call of the face with all choices of numbers at the ends of any range, and far out of it, on houses that
 * are new, furnished and full. Each answer, each exception and all that can be asked then are compared with the
 * reference; what is asked behind a call that was refused, with a house that it was not asked of.
 */
public final class SweepTest extends Checks {
    /** For up to two numbers, and for more of them. */
    private static final int[] MANY = {MIN, MIN + 1, -33, -32, -3, -2, -1, 0, 1, 2, 3, 4, 5, 6, 7, 8, 9, 10, 15, 16, 17,
        26, 27, 28, 31, 32, 33, 59, 60, 61, 63, 64, 65, 255, 256, 511, 512, 65536, MAX - 1, MAX};
    private static final int[] SOME = {MIN, -2, -1, 0, 1, 2, 3, 4, 5, 6, 8, 26, 27, 32, MAX};
    private static final int[] FEW = {MIN, -2, -1, 0, 1, 2, 3, 5, 6, MAX};
    private static final long[] CHARACTERS = {0, 1, -1, Long.MIN_VALUE, Long.MAX_VALUE, MIN, MAX, 'a', 'f', 'g', '`',
        '0', '7', '8', '/', '(', ')', '*', '\'', ',', '+', '-', '=', '<', '>', '&', '%', ':', ';', 'A', ' ', 0xe1,
        0x161,
        packed("a:a=a&a="), packed("a:a=a&a*"), packed("*:a=a&a="), packed("\u00e1:a=a&a="), packed("&a=b"),
        packed("&0(a)"), packed("a:0(a)"), Long.MIN_VALUE | 'a', 'a' | 1L << 32, 'a' | 255L << 56};

    private interface State {
        void play(House house);
    }

    private static final State[] STATES = {
        p -> { },
        p -> p.call("values", 3),
        p -> furnish(p, 2),
        p -> furnish(p, 3),
        p -> fill(p, 2),
        p -> fill(p, 3),
    };

    private static long calls = 0;

    public static void main(String[] args) {
        for (State state : STATES) {
            for (Method method : Polymorphium.class.getDeclaredMethods()) {
                if (Modifier.isPublic(method.getModifiers())) {
                    sweep(state, method);
                }
            }
        }
        System.out.println(calls + " calls with numbers at the ends of their ranges");
        end();
    }

    private static void furnish(House p, int many) {
        p.call("values", many);
        p.call("relation", 1);
        p.call("tuple", 0, 0, true);
        p.call("relation", 2);
        p.call("tuple", 1, 1, true);
        p.call("tuple", 1, 2, true);
        p.call("relation", most(many));
        p.call("tuple", 2, 0, true);
        p.call("tuple", 2, 3, true);
        p.call("make", 0);
        p.call("operation", 3);
        p.call("answers", 1, many, 1);
        p.call("make", 4);
        p.call("instance", 3);
        p.call("constrain", 1, 0, 2, NONE);
        p.call("constrain", 0, 2, NONE, NONE);
        p.call("type", packed("a:1(a,b)"), 8);
    }

    private static void fill(House p, int many) {
        furnish(p, many);
        for (int i = 3; i < 8; i++) {
            p.call("relation", 1 + i % 2);
            p.call("tuple", i, 0, true);
            p.call("tuple", i, 1, true);
        }
        for (int what = 1; what < 4; what++) {
            p.call("make", what);
        }
        p.call("instance", 6);
        for (int i = 0; i < 16; i++) {
            p.call("constrain", 1, i % 6, (i + 3) % 6, NONE);
        }
        for (int i = 0; i < 6; i++) {
            p.call("type", packed("&1(b,a)"), 7);
        }
        p.call("type", packed("&a=b&b=a"), 8);
        p.call("type", packed("&a"), 2);
    }

    private static House in(State state, Object object) {
        House house = new House(object);
        state.play(house);
        return house;
    }

    private static void sweep(State state, Method method) {
        String untouched = in(state, new Polymorphium()).state();
        int places = method.getParameterCount();
        int[] numbers = places <= 2 ? MANY : places == 3 ? SOME : FEW;
        int choices = 1;
        for (Class<?> type : method.getParameterTypes()) {
            choices *= width(type, numbers);
        }
        for (int choice = 0; choice < choices; choice++) {
            Object[] arguments = new Object[places];
            int rest = choice;
            for (int place = 0; place < places; place++) {
                Class<?> type = method.getParameterTypes()[place];
                int at = rest % width(type, numbers);
                rest /= width(type, numbers);
                arguments[place] = type == boolean.class ? (Object) (at == 1)
                        : type == long.class ? (Object) CHARACTERS[at] : (Object) numbers[at];
            }
            compare(state, method.getName(), arguments, untouched);
        }
    }

    private static int width(Class<?> type, int[] numbers) {
        return type == boolean.class ? 2 : type == long.class ? CHARACTERS.length : numbers.length;
    }

    private static void compare(State state, String name, Object[] arguments, String untouched) {
        calls++;
        String what = name + Arrays.toString(arguments);
        House built = in(state, new Polymorphium());
        House due = in(state, new Reference());
        Object answer = built.call(name, arguments);
        due(what, answer, due.call(name, arguments));
        boolean isRefused = answer instanceof Class;
        due(what + ", then", built.state(), isRefused ? untouched : due.state());
    }
}
