import java.lang.reflect.Method;
import java.util.Arrays;
import java.util.Comparator;
import java.util.Random;

/** Runs of calls by fixed seeds, each answer compared with the plain reading of the document. */
public final class RandomRunsTest {
    private static final Check CHECK = new Check("RandomRunsTest");
    private static final int[] EDGES = {Integer.MIN_VALUE, -2, -1, 0, 1, 2, 3, 7, 8, 9, 10, 16, 17,
        29, 30, 60, 61, 99, 100, 255, 256, Integer.MAX_VALUE};

    public static void main(String[] args) throws Exception {
        int runs = Integer.getInteger("runs", 120);
        for (int seed = 0; seed < runs; seed++) {
            run(seed);
        }
        CHECK.end();
    }

    private static Method[] calls() {
        Method[] calls = Arrays.stream(SmallFirst.class.getDeclaredMethods())
            .filter(m -> java.lang.reflect.Modifier.isPublic(m.getModifiers())).toArray(Method[]::new);
        Arrays.sort(calls, Comparator.comparing(Method::getName));
        return calls;
    }

    private static void run(int seed) throws Exception {
        Random random = new Random(seed);
        SmallFirst x = new SmallFirst();
        Plain plain = new Plain();
        typeBoth(x, plain, 0, laws(random), seed);
        typeBoth(x, plain, 1, dust(random), seed);
        Method[] calls = calls();
        for (int n = 0; n < 200; n++) {
            Method call = calls[random.nextInt(calls.length)];
            boolean rare = call.getName().equals("wipe") || call.getName().equals("digest")
                || call.getName().equals("forget") || call.getName().equals("type");
            if (rare && random.nextInt(4) != 0) {
                continue;
            }
            ask(call, arguments(call, random), x, plain, seed);
            if (random.nextInt(30) == 0 && plain.count(0) == 0) {
                mendText(x, plain, 0, laws(random), seed);
                mendText(x, plain, 1, dust(random), seed);
            }
        }
        CHECK.due("seed " + seed + ": digest()", x.digest(), plain.digest());
    }

    private static void ask(Method call, Object[] with, SmallFirst x, Plain plain, int seed) throws Exception {
        Method same = Plain.class.getMethod(call.getName(), call.getParameterTypes());
        long got = ((Number) call.invoke(x, with)).longValue();
        long want = ((Number) same.invoke(plain, with)).longValue();
        CHECK.due("seed " + seed + ": " + call.getName() + Arrays.toString(with), got, want);
    }

    private static void typeBoth(SmallFirst x, Plain plain, int text, String bytes, int seed) {
        for (char b : bytes.toCharArray()) {
            CHECK.due("seed " + seed + ": type", x.type(text, b), plain.type(text, b));
            CHECK.due("seed " + seed + ": fault", x.fault(text), plain.fault(text));
        }
    }

    private static void mendText(SmallFirst x, Plain plain, int text, String bytes, int seed) {
        CHECK.due("seed " + seed + ": wipe", x.wipe(text), plain.wipe(text));
        typeBoth(x, plain, text, bytes, seed);
    }

    private static String laws(Random random) {
        StringBuilder text = new StringBuilder();
        int n = random.nextInt(19);
        int kinds = 2 + random.nextInt(7);
        for (int i = 0; i < n; i++) {
            int a = random.nextInt(kinds);
            int b = random.nextInt(kinds);
            text.append(i == 0 ? "" : ";").append((char) ('a' + Math.min(a, b)));
            if (a != b && random.nextBoolean()) {
                text.append((char) ('a' + Math.max(a, b)));
            }
            text.append(random.nextInt(4) == 0 ? '-' : '+').append((char) ('A' + random.nextInt(kinds)));
        }
        if (random.nextInt(12) == 0 && n > 0) {
            text.setCharAt(random.nextInt(text.length()), (char) random.nextInt(256));
        }
        return text.toString();
    }

    private static String dust(Random random) {
        StringBuilder text = new StringBuilder();
        int n = random.nextInt(14);
        for (int i = 0; i < n; i++) {
            text.append(i == 0 ? "" : ";").append((char) ('A' + random.nextInt(8)));
            text.append((char) ('a' + random.nextInt(8)));
        }
        return n == 13 ? text.substring(0, 35) : text.toString();
    }

    private static Object[] arguments(Method call, Random random) {
        Object[] with = new Object[call.getParameterCount()];
        for (int i = 0; i < with.length; i++) {
            with[i] = argument(call.getName(), i, random);
        }
        return with;
    }

    private static int argument(String call, int i, Random random) {
        if (random.nextInt(25) == 0) {
            return EDGES[random.nextInt(EDGES.length)];
        }
        if (call.equals("lot") && i == 0) {
            return random.nextInt();
        }
        int[] most = most(call);
        int from = call.equals("lot") && i == 2 || call.equals("steady") ? -1 : 0;
        return from + random.nextInt(most[Math.min(i, most.length - 1)] - from + 1);
    }

    private static int[] most(String call) {
        return switch (call) {
            case "type" -> new int[] {1, 255};
            case "rule" -> new int[] {15, 2};
            case "dust" -> new int[] {11, 1};
            case "first", "comes", "lays", "second", "moved" -> new int[] {255};
            case "lay" -> new int[] {9, 7, 1};
            case "week" -> new int[] {29, 1};
            case "touch" -> new int[] {9, 7, 7, 1};
            case "keepOff" -> new int[] {9, 7, 1};
            case "bars", "watch" -> new int[] {7};
            case "play" -> new int[] {4, 7, 1};
            case "steady" -> new int[] {5};
            case "round" -> new int[] {255, 1};
            case "seen" -> new int[] {255, 255};
            case "read", "lose" -> new int[] {3};
            case "stands" -> new int[] {7, 1};
            case "cat" -> new int[] {16, 7, 1};
            case "let" -> new int[] {16, 7};
            case "lot" -> new int[] {0, 99, 7};
            case "sheet" -> new int[] {3, 2, 60};
            case "put" -> new int[] {3, 2, 20, 300};
            case "get" -> new int[] {3, 2, 20};
            case "copy" -> new int[] {3, 8, 3, 8, 12};
            case "write" -> new int[] {1, 3};
            case "count" -> new int[] {8};
            default -> new int[] {1};
        };
    }
}
