import java.lang.reflect.Method;
import java.util.Arrays;
import java.util.Random;

/**
 * Runs of calls by fixed seeds, each answer compared with the plain reading of the document. A run is as long
 * as the document allows, 512 calls, and ends with the digest.
 */
public final class RandomRunsTest {
    private static final Check CHECK = new Check("RandomRunsTest");
    private static final Method[] CALLS = Calls.all();
    private static final int MOST_CALLS = 512;
    private static final int[] EDGES = {Integer.MIN_VALUE, -2, -1, 0, 1, 2, 3, 7, 8, 9, 10, 16, 17,
        29, 30, 60, 61, 99, 100, 255, 256, Integer.MAX_VALUE};

    private final int seed;
    private final Random random;
    private final SmallFirst x = new SmallFirst();
    private final Plain plain = new Plain();
    private int asked = 0;

    private RandomRunsTest(int seed) {
        this.seed = seed;
        random = new Random(seed);
    }

    public static void main(String[] args) {
        int runs = Integer.getInteger("runs", 120);
        for (int seed = 0; seed < runs; seed++) {
            new RandomRunsTest(seed).run();
        }
        CHECK.end();
    }

    private void run() {
        typeAll(0, laws(random));
        typeAll(1, dust(random));
        while (asked < MOST_CALLS - 1) {
            Method call = CALLS[random.nextInt(CALLS.length)];
            boolean rare = call.getName().equals("wipe") || call.getName().equals("digest")
                || call.getName().equals("forget") || call.getName().equals("type");
            if (rare && random.nextInt(4) != 0) {
                continue;
            }
            ask(call.getName(), arguments(call));
            if (random.nextInt(30) == 0 && plain.count(0) == 0) {
                mendText(0, laws(random));
                mendText(1, dust(random));
            }
        }
        CHECK.due("seed " + seed + ", the last call: digest()", x.digest(), plain.digest());
    }

    // One call is left for the digest.
    private void ask(String call, int... with) {
        if (asked < MOST_CALLS - 1) {
            asked++;
            CHECK.due("seed " + seed + ", call " + asked + ": " + call + Arrays.toString(with),
                Calls.ask(x, call, with), Calls.ask(plain, call, with));
        }
    }

    private void typeAll(int text, String bytes) {
        for (char b : bytes.toCharArray()) {
            ask("type", text, b);
            if (random.nextInt(6) == 0) {
                ask("fault", text);
            }
        }
    }

    private void mendText(int text, String bytes) {
        ask("wipe", text);
        typeAll(text, bytes);
    }

    private static String laws(Random random) {
        StringBuilder text = new StringBuilder();
        int n = random.nextInt(19);
        int kinds = 2 + random.nextInt(7);
        for (int i = 0; i < n; i++) {
            int a = random.nextInt(kinds);
            int b = random.nextInt(kinds);
            text.append(i == 0 ? "" : ";").append((char) ('a' + Math.min(a, b)));
            if (a != b && random.nextBoolean()) {
                text.append((char) ('a' + Math.max(a, b)));
            }
            text.append(random.nextInt(4) == 0 ? '-' : '+').append((char) ('A' + random.nextInt(kinds)));
        }
        if (random.nextInt(12) == 0 && n > 0) {
            text.setCharAt(random.nextInt(text.length()), (char) random.nextInt(256));
        }
        return text.toString();
    }

    private static String dust(Random random) {
        StringBuilder text = new StringBuilder();
        int n = random.nextInt(14);
        for (int i = 0; i < n; i++) {
            text.append(i == 0 ? "" : ";").append((char) ('A' + random.nextInt(8)));
            text.append((char) ('a' + random.nextInt(8)));
        }
        return n == 13 ? text.substring(0, 35) : text.toString();
    }

    private int[] arguments(Method call) {
        int[] with = new int[call.getParameterCount()];
        for (int i = 0; i < with.length; i++) {
            with[i] = argument(call.getName(), i, random);
        }
        return with;
    }

    private static int argument(String call, int i, Random random) {
        if (random.nextInt(25) == 0) {
            return EDGES[random.nextInt(EDGES.length)];
        }
        if (call.equals("lot") && i == 0) {
            return random.nextInt();
        }
        int[] most = most(call);
        int from = call.equals("lot") && i == 2 || call.equals("steady") ? -1 : 0;
        return from + random.nextInt(most[Math.min(i, most.length - 1)] - from + 1);
    }

    private static int[] most(String call) {
        return switch (call) {
            case "type" -> new int[] {1, 255};
            case "rule" -> new int[] {15, 2};
            case "dust" -> new int[] {11, 1};
            case "first", "comes", "lays", "second", "moved" -> new int[] {255};
            case "lay" -> new int[] {9, 7, 1};
            case "week" -> new int[] {29, 1};
            case "touch" -> new int[] {9, 7, 7, 1};
            case "keepOff" -> new int[] {9, 7, 1};
            case "bars", "watch" -> new int[] {7};
            case "play" -> new int[] {4, 7, 1};
            case "steady" -> new int[] {5};
            case "round" -> new int[] {255, 1};
            case "seen" -> new int[] {255, 255};
            case "read", "lose" -> new int[] {3};
            case "stands" -> new int[] {7, 1};
            case "cat" -> new int[] {16, 7, 1};
            case "let" -> new int[] {16, 7};
            case "lot" -> new int[] {0, 99, 7};
            case "sheet" -> new int[] {3, 2, 60};
            case "put" -> new int[] {3, 2, 20, 300};
            case "get" -> new int[] {3, 2, 20};
            case "copy" -> new int[] {3, 8, 3, 8, 12};
            case "write" -> new int[] {1, 3};
            case "count" -> new int[] {8};
            default -> new int[] {1};
        };
    }
}
