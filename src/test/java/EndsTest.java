import java.lang.reflect.InvocationTargetException;
import java.lang.reflect.Method;
import java.lang.reflect.Modifier;
import java.util.ArrayList;
import java.util.Comparator;
import java.util.List;

/**
 * Every call of the face with numbers at the ends of int and long and on both sides of each limit,
 * one or two arguments at a time, asked of objects that are empty, ordinary and full. What is due is
 * told by the model, which had the same calls; so a refused call that changes something shows, too.
 */
public final class EndsTest {
    private static final int[] INTS = {Integer.MIN_VALUE, Integer.MIN_VALUE + 1, -256, -32, -2, -1, 0, 1, 2, 3, 4, 5,
        7, 8, 10, 11, 12, 29, 30, 31, 32, 59, 60, 64, 100, 101, 120, 121, 255, 256, 1023, 1024,
        Integer.MAX_VALUE - 1, Integer.MAX_VALUE};
    private static final long[] LONGS = {Long.MIN_VALUE, Long.MIN_VALUE + 1, Integer.MIN_VALUE, -257, -256, -2, -1, 0,
        1, 254, 255, 256, Integer.MAX_VALUE, 0x0101010101010101L, 0x01fe010101010101L, 0xfd01ffffffff0000L,
        Long.MAX_VALUE - 1, Long.MAX_VALUE};

    /** What is there in all objects but the empty one; at the place of an argument that is not varied. */
    private static final int[] THERE = {0, 1};
    private static final int CALLS = 512;
    private static final Due due = new Due();

    private interface Maker {
        void make(Pair pair);
    }

    /** An object and its model, which are asked alike. */
    private static final class Pair {
        static final int LOOKS = 80;
        static final int[] PAPERS = {0, 1, 7};

        final ExamScales x = new ExamScales();
        final Model model = new Model();
        int calls = 0;

        long[] ask(String name, Object... args) {
            calls++;
            return new long[] {answerOf(x, name, args), answerOf(model, name, args)};
        }

        /** Enough to see a change of any question, paper or pupil that the makers made. */
        long[][] look() {
            List<long[]> seen = new ArrayList<>();
            for (int i = 0; i < 10; i++) {
                seen.add(ask("count", i % 6));
                seen.add(ask("cut", i % 8, i / 8));
                seen.add(ask("sharp", 3 * i));
                seen.add(ask("group", PAPERS[i % 3], PAPERS[i / 3 % 3], 2));
                seen.add(ask("leak", 1, i));
                seen.add(ask("pair", PAPERS[i % 3], 2, i));
                seen.add(ask("total", 6 * i + 5));
                seen.add(ask("gap", i, i));
            }
            return seen.toArray(new long[0][]);
        }
    }

    private static long answerOf(Object asked, String name, Object[] args) {
        Class<?>[] types = new Class<?>[args.length];
        for (int i = 0; i < args.length; i++) {
            types[i] = args[i] instanceof Long ? long.class : int.class;
        }
        try {
            return ((Number) asked.getClass().getDeclaredMethod(name, types).invoke(asked, args)).longValue();
        } catch (InvocationTargetException e) {
            throw new IllegalStateException(name + " threw", e.getCause());
        } catch (ReflectiveOperationException e) {
            throw new IllegalStateException(name, e);
        }
    }

    public static void main(String[] args) {
        List<Method> calls = new ArrayList<>();
        for (Method m : ExamScales.class.getDeclaredMethods()) {
            if (Modifier.isPublic(m.getModifiers())) {
                calls.add(m);
            }
        }
        calls.sort(Comparator.comparing(Method::getName));
        due.is("calls of the face", calls.size(), 30);
        List<Maker> makers = List.of(EndsTest::nothing, EndsTest::ordinary, EndsTest::full);
        for (Maker maker : makers) {
            for (Method call : calls) {
                new Sweep(maker, call).go();
            }
        }
        due.end();
    }

    private static void nothing(Pair pair) {
        due.is("nothing is there", pair.calls, 0);
    }

    /** Four kinds of questions in two papers that share three, four pupils with answers, two judges. */
    private static void ordinary(Pair pair) {
        for (int q = 0; q < 5; q++) {
            pair.ask("question", q % 4, 3 + q, q == 1 ? 6 : 0);
        }
        for (int paper = 0; paper < 3; paper++) {
            pair.ask("paper");
            for (int i = 0; i < 4 && paper < 2; i++) {
                pair.ask("put", paper, (i + paper) % 5);
            }
        }
        for (int pupil = 0; pupil < 4; pupil++) {
            pair.ask("pupil", pupil % 2, pupil);
            pair.ask("row", pupil, 0x0301020100000000L >> 8 * (pupil / 2));
        }
        for (int j = 0; j < 2; j++) {
            pair.ask("judge", j, 0, j, 2);
            pair.ask("judge", 0, 1, 1, j);
        }
    }

    /** As many of all as there can be; papers 0 and 7 are full, and have all the pupils. */
    private static void full(Pair pair) {
        for (int q = 0; q < 30; q++) {
            pair.ask("question", q % 4, 10, q % 4 == 1 ? 255 - q : 0);
        }
        for (int paper = 0; paper < 8; paper++) {
            pair.ask("paper");
            pair.ask("put", paper, paper);
        }
        for (int i = 0; i < 11; i++) {
            pair.ask("put", 0, 29 - i);
            pair.ask("put", 7, 8 + 2 * i);
        }
        for (int pupil = 0; pupil < 60; pupil++) {
            pair.ask("pupil", pupil % 2 * 7, pupil % 4);
            pair.ask("row", pupil, pupil % 3 == 0 ? 0x0707070707070707L : 0x0102030405060700L + pupil % 8);
        }
        for (int j = 0; j < 8; j++) {
            pair.ask("judge", j, 7, 7, j);
            pair.ask("judge", j, 0, 29, 10);
        }
    }

    /** All that is asked of one call: of each two of its arguments, each two numbers. */
    private static final class Sweep {
        private final Maker maker;
        private final Method call;
        private final Class<?>[] types;
        private Pair pair;

        Sweep(Maker maker, Method call) {
            this.maker = maker;
            this.call = call;
            types = call.getParameterTypes();
            pair = made();
        }

        private Pair made() {
            Pair made = new Pair();
            maker.make(made);
            return made;
        }

        private void look() {
            long[][] seen = pair.look();
            for (int i = 0; i < seen.length; i++) {
                due.is("after " + call.getName() + ", look " + i, seen[i][0], seen[i][1]);
            }
        }

        void go() {
            for (int there : THERE) {
                for (int a = 0; a < types.length; a++) {
                    for (int b = types.length == 1 ? 0 : a + 1; b < types.length; b++) {
                        two(a, b, there);
                    }
                }
            }
            for (int i = 0; types.length == 0 && i < 10; i++) {
                ask(new Object[0]);
            }
            look();
        }

        private void two(int a, int b, int there) {
            Object[] args = new Object[types.length];
            for (int i = 0; i < args.length; i++) {
                args[i] = types[i] == long.class ? (Object) (long) there : (Object) there;
            }
            for (Object first : numbersOf(a)) {
                for (Object second : numbersOf(b)) {
                    args[a] = first;
                    args[b] = second;
                    ask(args);
                }
            }
        }

        private List<Object> numbersOf(int argument) {
            List<Object> numbers = new ArrayList<>();
            if (types[argument] == long.class) {
                for (long n : LONGS) {
                    numbers.add(n);
                }
            } else {
                for (int n : INTS) {
                    numbers.add(n);
                }
            }
            return numbers;
        }

        private void ask(Object[] args) {
            if (pair.calls >= CALLS - Pair.LOOKS) {
                look();
                pair = made();
            }
            long[] answers = pair.ask(call.getName(), args);
            due.is(call.getName() + List.of(args), answers[0], answers[1]);
        }
    }
}
