import java.lang.reflect.Method;
import java.util.ArrayList;
import java.util.Comparator;
import java.util.List;
import java.util.Random;

/** All promises: runs of calls by lot, answered as PlainSand answers them. */
public final class RandomRunsTest {
    private static final int RUNS = 1500;
    /** Behind so many calls the document leaves an object's answers free. */
    private static final int MOST_CALLS = 512;
    private static final int[] EDGES = {-1, 0, 1, 2, 3, 4, 5, 6, 8, 9, 15, 16, 39, 40, 41, 60, 98, 99, 100, 101, 103, 105,
        109, 115, 116, 127, 128, 199, 200, 201, 204, 215, 216, 399, 400, 401, 998, 999, 1000, 1000000, 1000001,
        1000000000, 1000000001, Integer.MAX_VALUE, Integer.MIN_VALUE, Integer.MIN_VALUE + 100};
    private static final String[] TEXTS = {"0", "33", "3#3", "333/333", "33/33/33", "000/000/000", "9#9/999", "#", "##/##",
        "3333/3##3/3333", "1234/5678/9012/3456", "0#0#/#0#0/0#0#/#0#0", "12/3", "12/345", "12345", "1/2/3/4/5", "1//", "x",
        "1/2/3/4/", "12/3/4", "1a", "1234/1234/1234/1234x", "99/99/9#"};

    private static Check check = new Check("RandomRunsTest");
    private final Random random;
    private final SandGroup x = new SandGroup();
    private final PlainSand plain = new PlainSand();
    private final StringBuilder calls = new StringBuilder();
    private int asked;

    private RandomRunsTest(long seed) {
        random = new Random(seed);
    }

    public static void main(String[] args) throws Exception {
        List<Method> methods = new ArrayList<>();
        for (Method method : SandGroup.class.getDeclaredMethods()) {
            if (java.lang.reflect.Modifier.isPublic(method.getModifiers())) {
                methods.add(method);
            }
        }
        methods.sort(Comparator.comparing(Method::getName));
        int runs = args.length > 0 ? Integer.parseInt(args[0]) : RUNS;
        long first = args.length > 1 ? Long.parseLong(args[1]) : 0;
        for (int run = 0; run < runs; run++) {
            new RandomRunsTest(first + run).play(methods, run % 50 == 0 ? 1000 : 60);
        }
        check.end();
    }

    private void play(List<Method> methods, int length) throws Exception {
        for (int k = 0; k < length; k++) {
            if (random.nextInt(30) == 0) {
                String text = TEXTS[random.nextInt(TEXTS.length)];
                for (int i = 0; i < text.length(); i++) {
                    ask(SandGroup.class.getMethod("feed", int.class), (int) text.charAt(i));
                }
                ask(SandGroup.class.getMethod("read"));
            }
            Method method = methods.get(random.nextInt(methods.size()));
            if (isRare(method.getName()) && random.nextInt(4) != 0) {
                continue;
            }
            ask(method, lot(method));
        }
    }

    /** What takes the plain way long, or forgets what a run has built up. */
    private boolean isRare(String name) {
        return List.of("size", "wall", "again", "order", "times", "opposite", "through", "lots").contains(name);
    }

    private Object[] lot(Method method) {
        Class<?>[] types = method.getParameterTypes();
        Object[] values = new Object[types.length];
        for (int i = 0; i < types.length; i++) {
            if (types[i] == boolean.class) {
                values[i] = random.nextBoolean();
            } else {
                values[i] = value(method.getName(), i);
            }
        }
        return values;
    }

    private int value(String name, int i) {
        if (random.nextInt(12) == 0) {
            return EDGES[random.nextInt(EDGES.length)];
        }
        switch (name) {
            case "size":
                return 1 + random.nextInt(4);
            case "wall", "height", "topple":
                return cell();
            case "set":
                return i == 0 ? cell() : random.nextInt(random.nextInt(8) == 0 ? 300 : 6);
            case "drop":
                return i == 0 ? cell() : 1 + random.nextInt(9);
            case "feed":
                return "#/0123456789".charAt(random.nextInt(12));
            case "why":
                return random.nextInt(4);
            case "settled":
                return random.nextInt(2) == 0 ? random.nextInt(5) : 100 * (1 + random.nextInt(2)) + cell();
            case "trace":
                return i == 0 ? random.nextInt(4) : random.nextInt(40);
            case "common":
                return random.nextInt(4);
            case "keep", "load", "order", "one", "sum", "nought", "opposite":
                return random.nextInt(random.nextInt(3) == 0 ? 6 : 3);
            case "pile":
                return i == 0 ? random.nextInt(4) : cell();
            case "times":
                return i < 2 ? random.nextInt(4) : random.nextInt(random.nextBoolean() ? 20 : 1000000001);
            case "burn":
                return i == 0 ? random.nextInt(4) : random.nextBoolean() ? random.nextInt(3) : 100 + cell();
            case "avalanche":
                return i == 0 ? cell() : random.nextInt(4);
            case "again":
                return i == 0 ? cell() : random.nextInt(2);
            case "lots":
                return i == 0 ? random.nextInt() : i == 1 ? 1 + random.nextInt(200) : what();
            case "get", "put", "list":
                return i == 0 ? random.nextInt(4) : i == 1 ? random.nextInt(17) : random.nextInt(9);
            case "count":
                return random.nextInt(9);
            default:
                return random.nextInt(5);
        }
    }

    private int cell() {
        return random.nextInt(plain.count(0));
    }

    private int what() {
        return switch (random.nextInt(3)) {
            case 0 -> random.nextInt(4);
            case 1 -> 100 + random.nextInt(8);
            default -> 400 + random.nextInt(8);
        };
    }

    private void ask(Method method, Object... values) throws Exception {
        if (asked == MOST_CALLS) {
            return;
        }
        asked++;
        Method same = PlainSand.class.getMethod(method.getName(), method.getParameterTypes());
        long got = ((Number) method.invoke(x, values)).longValue();
        long want = ((Number) same.invoke(plain, values)).longValue();
        String call = method.getName() + java.util.Arrays.toString(values);
        calls.append(call).append('=').append(want).append(' ');
        check.due(got == want ? call : calls.toString(), got, want);
    }
}
