import java.lang.reflect.Method;
import java.util.ArrayDeque;
import java.util.Arrays;
import java.util.Random;
import java.util.stream.LongStream;

/** Drawn runs of calls, always the same ones, on SeamCell and on Model: both answer alike. */
public final class ModelTest {
    private static final String[] NAMES = {"table", "arm", "rules", "times", "home", "bar", "seam", "clear",
        "about", "lacks", "near", "free", "add", "row", "total", "best", "touch", "shut", "shift",
        "shifted", "act", "run", "ran", "web", "lock", "told"};
    // How often each is drawn: what builds up is drawn more often than what takes away.
    private static final int[] OFTEN = {3, 2, 2, 3, 3, 2, 12, 3, 12, 8, 6, 10, 12, 16, 4, 0, 5, 3, 2,
        2, 24, 4, 6, 3, 8, 4};
    private static final int RUNS = 400, CALLS = 512, SEARCHES = 400, DEAR_CALLS = 2;

    private final Random random;
    private final SeamCell cell = new SeamCell();
    private final Model model = new Model();
    private final ArrayDeque<String> latest = new ArrayDeque<>();
    private int dearCalls;
    private boolean alike = true;

    private ModelTest(long seed) {
        random = new Random(seed);
    }

    public static void main(String[] args) {
        int times = args.length > 0 ? Integer.parseInt(args[0]) : 1;
        long wrong = LongStream.range(0, (long) times * RUNS).parallel()
            .filter(seed -> !new ModelTest(seed).drawnCalls()).count();
        System.out.println(times * RUNS + " runs of " + CALLS + " calls, " + wrong + " of them not as due");
        long wrongToo = LongStream.range(0, (long) times * SEARCHES).parallel()
            .filter(seed -> !new ModelTest(seed).drawnSearch((int) (seed % 6) + 1)).count();
        System.out.println(times * SEARCHES + " searches, " + wrongToo + " of them not as due");
        long wrongLines = LongStream.range(0, 11 * 11).filter(at -> !everyLine((int) at / 11, (int) at % 11)).count();
        System.out.println(11 * 11 + " places with every line from them, " + wrongLines + " of them not as due");
        if (wrong + wrongToo + wrongLines != 0) System.exit(1);
    }

    /** Lines from one place to all about a bar and about the arm's inner reach. */
    private static boolean everyLine(int x, int y) {
        ModelTest test = new ModelTest(0);
        test.ask("bar", 3, 4, 8, 6);
        test.ask("arm", 10, 14);
        for (int to = 0; to < 11 * 11; to++) {
            test.ask("free", x, y, to / 11, to % 11);
            test.ask("clear", 0);
            test.ask("seam", x - 5, y - 5, to / 11 - 5, to % 11 - 5, 1, 0);
            test.ask("lacks", 0, to % 4);
        }
        return test.alike;
    }

    private boolean drawnCalls() {
        for (int k = 0; k < CALLS && alike; k++) {
            String name = draw();
            ask(name, numbers(name));
        }
        return alike;
    }

    /** A cell with so many seams, all of which have a quarter, and all that best() makes of it. */
    private boolean drawnSearch(int seams) {
        for (String name : new String[] {"table", "rules", "times", "home", "bar", "bar", "bar"}) {
            ask(name, numbers(name));
        }
        for (int k = 0; k < 300 && model.told(0) < seams; k++) {
            int[] line = someSeam();
            if (model.hasPlaceFor(line)) ask("seam", line);
        }
        ask("best");
        for (int k = 0; k < seams; k++) {
            for (int what = 0; what < 5; what++) ask("row", k, what);
        }
        return alike;
    }

    /** One call on both; their answers are alike or it is told. */
    private void ask(String name, int... numbers) {
        int got = answer(cell, name, numbers), want = answer(model, name, numbers);
        latest.add(name + Arrays.toString(numbers) + " = " + got);
        if (latest.size() > 20) latest.remove();
        if (got != want && alike) System.out.println("due is " + want + " in the last of " + latest);
        alike &= got == want;
    }

    private static int answer(Object of, String name, int[] numbers) {
        Class<?>[] types = new Class<?>[numbers.length];
        Arrays.fill(types, int.class);
        try {
            Method method = of.getClass().getDeclaredMethod(name, types);
            return (Integer) method.invoke(of, Arrays.stream(numbers).boxed().toArray());
        } catch (ReflectiveOperationException e) {
            throw new IllegalStateException(name + Arrays.toString(numbers), e);
        }
    }

    /** best() is dear in the model, so that it is called now and then only. */
    private String draw() {
        if (dearCalls < DEAR_CALLS && random.nextInt(CALLS) < 4 * DEAR_CALLS) {
            if (model.told(0) > 4) dearCalls++;
            return "best";
        }
        int at = random.nextInt(Arrays.stream(OFTEN).sum()), which = 0;
        while (at >= OFTEN[which]) at -= OFTEN[which++];
        return NAMES[which];
    }

    /** Mostly numbers that are as told, the ends of the ranges often, and some that are not. */
    private int from(int least, int most) {
        int kind = random.nextInt(100);
        if (kind < 88) return least + random.nextInt(most - least + 1);
        if (kind < 92) return least;
        if (kind < 96) return most;
        if (kind < 97) return least - 1;
        if (kind < 98) return most + 1;
        int[] far = {Integer.MIN_VALUE, Integer.MAX_VALUE, -1, 1000000};
        return kind < 99 ? far[random.nextInt(4)] : least + (most - least) / 2;
    }

    private int[] numbers(String name) {
        switch (name) {
            case "table": return new int[] {from(-200, 200), from(100, 200)};
            case "arm": return random.nextInt(3) > 0 ? new int[] {from(150, 300), from(100, 200)}
                : new int[] {from(10, 300), from(10, 300)};
            case "rules": return new int[] {from(0, 1000), random.nextBoolean() ? from(0, 200) : from(0, 30)};
            case "times": return new int[] {from(0, 100), from(1, 100), from(0, 50), from(1, 100)};
            case "home": return new int[] {from(-400, 400), from(-400, 400)};
            case "bar": return someBar();
            case "seam": return someSeam();
            case "clear": return new int[] {from(0, 4)};
            case "about": return new int[] {from(0, 7), from(0, 7)};
            case "lacks": return new int[] {from(0, 7), from(0, 3)};
            case "near": return new int[] {from(0, 7), from(0, 7)};
            case "free": return someLine();
            case "add": return new int[] {from(0, 7), from(0, 1)};
            case "row": return new int[] {from(0, 5), from(0, 4)};
            case "touch": return someTouch();
            case "shut": return new int[] {from(0, 1), from(0, 1)};
            case "shifted": return new int[] {from(0, 1)};
            case "act": return someAct();
            case "ran": return new int[] {from(0, 4)};
            case "lock": return new int[] {from(-1, 6)};
            case "told": return new int[] {from(0, 5)};
            default: return new int[0];
        }
    }

    private int[] someBar() {
        int x = from(-300, 300), y = from(-300, 300);
        if (random.nextInt(20) == 0) return new int[] {x, y, from(-400, 400), from(-400, 400)};
        return new int[] {x, y, x + 1 + random.nextInt(60), y + 1 + random.nextInt(60)};
    }

    private int[] someSeam() {
        int x = from(-80, 80), y = from(-80, 80);
        int speed = from(1, 50), heat = from(0, 1000);
        if (random.nextInt(3) == 0) {
            return new int[] {x, y, from(-100, 100), from(-100, 100), speed, heat};
        }
        int dx = random.nextInt(41) - 20, dy = random.nextInt(41) - 20;
        return new int[] {x, y, x + dx, y + dy, speed, heat};
    }

    /** In small numbers lines meet corners and sides. */
    private int[] someLine() {
        int far = random.nextInt(3) == 0 ? 1000 : 300;
        int[] line = {from(-far, far), from(-far, far), from(-far, far), from(-far, far)};
        if (random.nextInt(4) == 0) line[2] = line[0];
        if (random.nextInt(4) == 0) line[3] = line[1];
        return line;
    }

    private int[] someTouch() {
        int v = from(-100, 100);
        int m = random.nextInt(10) == 0 ? from(-200, 200) : v + random.nextInt(31) - 15;
        return new int[] {from(0, 1), v, m, random.nextInt(8) == 0 ? from(0, 50) : from(5, 25)};
    }

    private int[] someAct() {
        int kind = random.nextInt(30) == 0 ? from(0, 2) : random.nextInt(3);
        int zones = 1 + random.nextInt(5);
        int n = kind == 0 ? (random.nextBoolean() ? from(1, 50) : from(1, 4))
            : random.nextInt(30) == 0 ? from(0, 4) : random.nextInt(zones);
        return new int[] {random.nextInt(40) == 0 ? from(0, 1) : random.nextInt(2), kind, n};
    }
}
