import java.util.Random;

/** Runs of mixed calls, by fixed seeds, on the class and on the plain one: all answers must be alike. */
public final class RandomRunsTest {
    private static final int RUNS = 240;
    private static final int[] ODD = {
        Integer.MIN_VALUE, Integer.MIN_VALUE + 1, -5, -4, -2, -1, 0, 59, 60, 61, 62, 63, 64, 65, 119, 120, 121, 122,
        605, 65535, 65536, 999999, 1000000, 2147483586, Integer.MAX_VALUE - 1, Integer.MAX_VALUE};

    private final Random random;
    private final Pair pair = new Pair();
    private int kinds = 2;
    private int letters = 0;

    private RandomRunsTest(long seed) {
        random = new Random(seed);
    }

    public static void main(String[] args) {
        for (int seed = 1; seed <= RUNS; seed++) new RandomRunsTest(seed).run();
        Pair.finish("RandomRunsTest");
    }

    private void run() {
        // Some runs are kept short of letters, so that their words come again and again.
        int style = random.nextInt(4);
        ask("begin", 1 + random.nextInt(style == 0 ? 2 : 5), 0, 0);
        if (style >= 2) ask("drift", 20 * style - 10 + random.nextInt(11), 1 + random.nextInt(999999), 0);
        while (pair.callsLeft() > 0) {
            if (random.nextInt(3) == 0) change(style);
            else if (random.nextInt(4) == 0) fillSheet();
            else question();
        }
    }

    private int ask(String call, int a, int b, int c) {
        if (pair.callsLeft() == 0) return 0;
        int due = pair.ask(call, a, b, c);
        if (call.equals("begin") && due >= 0) kinds = a;
        return due;
    }

    private int odd(int usual) {
        return random.nextInt(25) == 0 ? ODD[random.nextInt(ODD.length)] : usual;
    }

    private int upTo(int most) {
        return odd(random.nextInt(most + 1));
    }

    private int sheet() {
        return upTo(3);
    }

    private void change(int style) {
        letters = Math.max(0, ask("count", 1, 0, 0));
        switch (random.nextInt(12)) {
            case 0:
                if (random.nextInt(6) == 0) ask("begin", upTo(6), 0, 0);
                break;
            case 1: ask("growBy", sheet(), 0, 0); break;
            case 2: ask("cut", random.nextInt(4) == 0 ? upTo(letters + 1) : odd(random.nextInt(4)), 0, 0); break;
            case 3: ask("drift", odd(1 + random.nextInt(style == 1 ? 60 : 12)), odd(1 + random.nextInt(999999)), 0); break;
            case 4:
                ask("keep", upTo(1), 0, 0);
                break;
            case 5:
                if (random.nextInt(2) == 0) {
                    ask("goBack", upTo(1), 0, 0);
                    kinds = Math.max(1, ask("count", 0, 0, 0));
                }
                break;
            default: ask("grow", random.nextInt(3) == 0 ? upTo(kinds) : random.nextInt(Math.min(2, kinds)), 0, 0); break;
        }
    }

    private void fillSheet() {
        int s = sheet();
        switch (random.nextInt(8)) {
            case 0:
                ask("sheet", s, upTo(random.nextInt(5) == 0 ? 65 : 6), 0);
                break;
            case 1:
                ask("drop", s, 0, 0);
                break;
            case 2:
                ask("kth", upTo(random.nextBoolean() ? 40 : 1900), s, 0);
                break;
            case 3:
                ask("often", odd(1 + random.nextInt(5)), s, 0);
                break;
            case 4:
                ask("absent", s, 0, 0);
                break;
            case 5:
                ask("single", s, 0, 0);
                break;
            default:
                int many = random.nextInt(7);
                ask("sheet", s, many, 0);
                for (int i = 0; i < many; i++) ask("set", s, i, sign());
                break;
        }
        int many = ask("size", s, 0, 0);
        for (int i = 0; i < Math.min(many, 12); i++) ask("get", s, i, 0);
    }

    private int sign() {
        return random.nextInt(12) == 0 ? odd(95 + random.nextInt(9)) : 97 + random.nextInt(kinds);
    }

    private void question() {
        int states = Math.max(1, ask("count", 2, 0, 0));
        letters = Math.max(0, ask("count", 1, 0, 0));
        for (int i = 0; i < 6; i++) {
            String call = Calls.NAMES[5 + random.nextInt(Calls.NAMES.length - 7)];
            switch (call) {
                case "letter": ask(call, odd(random.nextInt(letters + 2) - 1), 0, 0); break;
                case "count": ask(call, upTo(11), 0, 0); break;
                case "state": ask(call, upTo(states), upTo(7), 0); break;
                case "move": ask(call, upTo(states), upTo(kinds), 0); break;
                case "end": ask(call, upTo(states), upTo(6), 0); break;
                case "set": ask(call, sheet(), upTo(5), odd(sign())); break;
                case "get": ask(call, sheet(), upTo(5), 0); break;
                case "size": case "walk": case "rank": case "gap": ask(call, sheet(), 0, 0); break;
                case "times": ask(call, sheet(), upTo(3), 0); break;
                case "common": ask(call, sheet(), upTo(2), 0); break;
                case "missing": ask(call, upTo(random.nextBoolean() ? 6 : 61), 0, 0); break;
                case "twice": ask(call, upTo(8), 0, 0); break;
                case "unlike": ask(call, upTo(letters + 1), 0, 0); break;
                case "cover": ask(call, 0, 0, 0); break;
                case "part": ask(call, upTo(12), 0, 0); break;
                case "border": ask(call, upTo(3), 0, 0); break;
                case "next": ask(call, random.nextBoolean() ? upTo(3) : upTo(letters + 1), 0, 0); break;
                case "worth": ask(call, upTo(10), 0, 0); break;
                default: break; // the calls that fill sheets have their turn elsewhere
            }
        }
    }
}
