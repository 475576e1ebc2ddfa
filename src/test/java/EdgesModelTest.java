import java.util.Map;
import java.util.function.BiFunction;

/**
 * Each call with all its arguments at and beyond their limits at once, in states that are at
 * theirs, held against the Model's answer; then all that told() tells is held against it, too.
 */
public final class EdgesModelTest {
    private static final int LEAST = Integer.MIN_VALUE;
    private static final int GREATEST = Integer.MAX_VALUE;
    private static final int[] FAMILY = {LEAST, -1, 0, 3, 5, 6, GREATEST};
    private static final int[] FIELD = {LEAST, -1, 0, 5, 14, 35, 36, GREATEST};
    private static final int[] WHAT = {LEAST, -1, 0, 1, 2, 3, 4, GREATEST};

    private static final String[] PADS = {"", "A1", "F9", "A", "w5", "Ac.FcFc", "AmFm", "rA1", "Bc",
        ".", "!", "w00AcFc", "ssssssssss", "Ac!", "BcA"};

    private final SeedBank bank = new SeedBank();
    private final Model model = new Model();

    private EdgesModelTest(int state) {
        switch (state % 4) {
            case 1 -> some();
            case 2 -> full();
            case 3 -> spent();
            default -> {
            }
        }
        say(PADS[state / 4 % PADS.length]);
    }

    public static void main(String[] args) {
        all("family", new int[][] {FAMILY, FIELD, {LEAST, -1, 0, 60, 61, GREATEST},
            {LEAST, 0, 1, 9, 10, GREATEST}},
                (x, a) -> x.family(a[0], a[1], a[2], a[3]), (x, a) -> x.family(a[0], a[1], a[2], a[3]));
        all("leave", new int[][] {FAMILY}, (x, a) -> x.leave(a[0]), (x, a) -> x.leave(a[0]));
        all("lay", new int[][] {FIELD, {LEAST, -1, 0, 1, 998, 999, 1000, GREATEST}},
                (x, a) -> x.lay(a[0], a[1]), (x, a) -> x.lay(a[0], a[1]));
        all("set", new int[][] {WHAT, {LEAST, -1, 0, 1, 2, 3, 4, 5, 6, GREATEST}},
                (x, a) -> x.set(a[0], a[1]), (x, a) -> x.set(a[0], a[1]));
        all("say", new int[][] {{LEAST, 32, 33, '1', 'A', 126, 127, GREATEST}},
                (x, a) -> x.say(a[0]), (x, a) -> x.say(a[0]));
        all("wipe", new int[][] {}, (x, a) -> x.wipe(), (x, a) -> x.wipe());
        all("fault", new int[][] {}, (x, a) -> x.fault(), (x, a) -> x.fault());
        all("judge", new int[][] {WHAT}, (x, a) -> x.judge(a[0]), (x, a) -> x.judge(a[0]));
        all("behind", new int[][] {FAMILY, WHAT},
                (x, a) -> x.behind(a[0], a[1]), (x, a) -> x.behind(a[0], a[1]));
        all("lies", new int[][] {FIELD}, (x, a) -> x.lies(a[0]), (x, a) -> x.lies(a[0]));
        all("total", new int[][] {WHAT}, (x, a) -> x.total(a[0]), (x, a) -> x.total(a[0]));
        all("ruined", new int[][] {WHAT}, (x, a) -> x.ruined(a[0]), (x, a) -> x.ruined(a[0]));
        all("done", new int[][] {}, (x, a) -> x.done(), (x, a) -> x.done());
        meadowCalls();
        breathCalls();
        imageCalls();
        Checks.end();
    }

    private static void meadowCalls() {
        all("pays", new int[][] {FAMILY, FAMILY},
                (x, a) -> x.pays(a[0], a[1]), (x, a) -> x.pays(a[0], a[1]));
        all("over", new int[][] {FAMILY, FAMILY, {LEAST, -1, 0, 1, 2, GREATEST}},
                (x, a) -> x.over(a[0], a[1], a[2]), (x, a) -> x.over(a[0], a[1], a[2]));
        all("bellows", new int[][] {{LEAST, 0, 1, 2, 5, 6, 7, GREATEST}, WHAT},
                (x, a) -> x.bellows(a[0], a[1]), (x, a) -> x.bellows(a[0], a[1]));
        all("principal", new int[][] {{LEAST, -1, 0, 1, 2, 12, 13, GREATEST}, WHAT},
                (x, a) -> x.principal(a[0], a[1]), (x, a) -> x.principal(a[0], a[1]));
        all("tax", new int[][] {FAMILY, {LEAST, -1, 0, 1, 5, 998, 999, 1000, GREATEST}},
                (x, a) -> x.tax(a[0], a[1]), (x, a) -> x.tax(a[0], a[1]));
    }

    private static void breathCalls() {
        all("seen", new int[][] {{LEAST, 0, 1, 9, 10, GREATEST}, {LEAST, -1, 0, 40, 81, 82, GREATEST}},
                (x, a) -> x.seen(a[0], a[1]), (x, a) -> x.seen(a[0], a[1]));
        all("forget", new int[][] {}, (x, a) -> x.forget(), (x, a) -> x.forget());
        all("fits", new int[][] {{LEAST, -2, -1, 0, 4, 5, 33, 34, 359, 360, GREATEST}},
                (x, a) -> x.fits(a[0]), (x, a) -> x.fits(a[0]));
        all("tries", new int[][] {WHAT}, (x, a) -> x.tries(a[0]), (x, a) -> x.tries(a[0]));
        all("gusts", new int[][] {{LEAST, -1, 0, 35, 36}, {LEAST, -2, -1, 0, 35, 36, GREATEST},
            {LEAST, -1, 0, 5, 6}, {-1, 0, 1, 2}},
                (x, a) -> x.gusts(a[0], a[1], a[2], a[3]), (x, a) -> x.gusts(a[0], a[1], a[2], a[3]));
        all("lovers", new int[][] {{LEAST, -1, 0, 1, 98, 99, 100, GREATEST},
            {LEAST, 0, 1, 9, 10, GREATEST}, {LEAST, -1, 0, 1, 2, GREATEST}},
                (x, a) -> x.lovers(a[0], a[1], a[2]), (x, a) -> x.lovers(a[0], a[1], a[2]));
        all("year", new int[][] {{LEAST, -1, 0, 872, 873, 9999, 10000, GREATEST},
            {LEAST, 0, 1, 99, 100, GREATEST}, {-1, 0, 1, 2, 3}},
                (x, a) -> x.year(a[0], a[1], a[2]), (x, a) -> x.year(a[0], a[1], a[2]));
    }

    private static void imageCalls() {
        int[] images = {LEAST, -1, 0, 1, 2, 32, GREATEST};
        all("image", new int[][] {images}, (x, a) -> x.image(a[0]), (x, a) -> x.image(a[0]));
        all("restore", new int[][] {images}, (x, a) -> x.restore(a[0]), (x, a) -> x.restore(a[0]));
        int[] numbers = new int[150];
        for (int i = 0; i < numbers.length; i++) {
            numbers[i] = i - 5;
        }
        numbers[148] = LEAST;
        numbers[149] = GREATEST;
        all("told", new int[][] {numbers}, (x, a) -> x.told(a[0]), (x, a) -> x.told(a[0]));
    }

    private static void all(String name, int[][] choices, BiFunction<SeedBank, int[], Number> call,
            BiFunction<Model, int[], Number> modelCall) {
        int many = 1;
        for (int[] choice : choices) {
            many *= choice.length;
        }
        for (int state = 0; state < 4 * PADS.length; state++) {
            for (int i = 0; i < many; i++) {
                int[] values = new int[choices.length];
                int rest = i;
                StringBuilder text = new StringBuilder("state " + state + ": " + name);
                for (int j = 0; j < choices.length; j++) {
                    values[j] = choices[j][rest % choices[j].length];
                    rest /= choices[j].length;
                    text.append(' ').append(values[j]);
                }
                EdgesModelTest both = new EdgesModelTest(state);
                long got = call.apply(both.bank, values).longValue();
                Checks.due(text.toString(), got, modelCall.apply(both.model, values).longValue());
                both.toldAlike(text.toString());
            }
        }
    }

    private void toldAlike(String when) {
        Map<Integer, Integer> rows = model.allTold();
        for (int what = 0; what < 136; what++) {
            int got = bank.told(what);
            int want = rows.getOrDefault(what, SeedBank.OUTSIDE);
            if (got != want) {
                Checks.due(when + ", then told " + what, got, want);
            }
        }
    }

    private void say(String text) {
        for (int i = 0; i < text.length(); i++) {
            bank.say(text.charAt(i));
            model.say(text.charAt(i));
        }
    }

    private void family(int f, int field, int seeds, int lungs) {
        bank.family(f, field, seeds, lungs);
        model.family(f, field, seeds, lungs);
    }

    private void lay(int field, int seeds) {
        bank.lay(field, seeds);
        model.lay(field, seeds);
    }

    private void seen(int times, int b, int flew) {
        for (int i = 0; i < times; i++) {
            bank.seen(b, flew);
            model.seen(b, flew);
        }
    }

    private void some() {
        family(0, 0, 1, 1);
        family(3, 14, 59, 9);
        lay(0, 1);
        lay(6, 999);
        lay(14, 2);
        seen(1, 3, 12);
        bank.image(1);
        model.image(1);
    }

    /** Six families with all they can have, 999 everywhere, eight sights. */
    private void full() {
        for (int f = 0; f < 6; f++) {
            family(f, 7 * f, 60, 9);
        }
        for (int field = 0; field < 36; field++) {
            lay(field, 999);
        }
        seen(8, 9, 40);
    }

    /** Hour 99, two families that have no breath and no seeds any more, sights that do not fit. */
    private void spent() {
        family(0, 35, 9, 9);
        family(5, 5, 9, 9);
        say(".".repeat(60));
        bank.done();
        model.done();
        say(".".repeat(39) + "A9F9w35");
        bank.done();
        model.done();
        seen(7, 9, 81);
        bank.image(0);
        model.image(0);
    }
}
