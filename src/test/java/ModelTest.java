import java.util.Random;

/** Runs of 512 drawn calls, each answer held against the Model's; some arguments are wild. */
public final class ModelTest {
    private static final int RUNS = 3000;
    private static final int CALLS = 512;

    private final Random random;
    private final SeedBank bank = new SeedBank();
    private final Model model = new Model();
    private final int run;
    private int calls = 0;

    private ModelTest(int run) {
        this.run = run;
        random = new Random(run);
    }

    public static void main(String[] args) {
        for (int run = 0; run < RUNS; run++) {
            new ModelTest(run).play();
        }
        Checks.end();
    }

    private void play() {
        if (run % 3 != 0) {
            settleAll();
        }
        while (calls < CALLS) {
            switch (random.nextInt(10)) {
                case 0, 1, 2 -> change();
                case 3, 4 -> sayText();
                case 5, 6 -> askHours();
                case 7 -> askMeadow();
                case 8 -> askBreath();
                default -> askState();
            }
        }
    }

    private void due(String call, long got, long want) {
        calls++;
        if (calls <= CALLS) {
            Checks.due("run " + run + ": " + call, got, want);
        }
    }

    /** A number of a range, now and then just beside it, seldom far off. */
    private int of(int least, int most) {
        int dice = random.nextInt(60);
        if (dice == 0) return least - 1;
        if (dice == 1) return most + 1;
        if (dice == 2) return random.nextInt();
        if (dice == 3) return random.nextBoolean() ? Integer.MIN_VALUE : Integer.MAX_VALUE;
        if (dice < 8) return least;
        if (dice < 12) return most;
        return least + random.nextInt(most - least + 1);
    }

    /** In some runs all live in few rows, so that payments meet. */
    private int field() {
        if (run % 2 == 0) return of(0, 35);
        return 6 * random.nextInt(3) + random.nextInt(3);
    }

    private void settleAll() {
        for (int f = 0; f < 6; f++) {
            family(f, field(), random.nextInt(61), 1 + random.nextInt(9));
        }
        for (int i = 0; i < 8; i++) {
            lay();
        }
    }

    private void family(int f, int field, int seeds, int lungs) {
        due("family " + f + " " + field + " " + seeds + " " + lungs,
                bank.family(f, field, seeds, lungs), model.family(f, field, seeds, lungs));
    }

    private void lay() {
        int field = field();
        int seeds = random.nextBoolean() ? of(0, 999) : of(0, 40);
        due("lay " + field + " " + seeds, bank.lay(field, seeds), model.lay(field, seeds));
    }

    private void change() {
        int a = of(0, 5);
        switch (random.nextInt(12)) {
            case 0, 1, 2 -> family(a, field(), of(0, 60), of(1, 9));
            case 3 -> due("leave " + a, bank.leave(a), model.leave(a));
            case 4, 5 -> lay();
            case 6, 7 -> set(of(0, 2));
            case 8 -> due("done", bank.done(), model.done());
            case 9 -> {
                int k = of(0, 1);
                due("image " + k, bank.image(k), model.image(k));
            }
            case 10 -> {
                int k = of(0, 1);
                due("restore " + k, bank.restore(k), model.restore(k));
            }
            default -> due("wipe", bank.wipe(), model.wipe());
        }
    }

    private void set(int which) {
        int v = which == 0 ? of(0, 3) : which == 1 ? of(0, 5) : random.nextInt(4) / 3;
        due("set " + which + " " + v, bank.set(which, v), model.set(which, v));
    }

    private void sayText() {
        StringBuilder text = new StringBuilder();
        int acts = 1 + random.nextInt(4);
        for (int i = 0; i < acts; i++) {
            char letter = (char) ('A' + random.nextInt(6));
            switch (random.nextInt(16)) {
                case 0 -> text.append('r');
                case 1 -> text.append('s');
                case 2, 3 -> text.append('.');
                case 4, 5 -> text.append('w').append(random.nextInt(4)).append(random.nextInt(6));
                case 6 -> text.append(letter).append('c');
                case 7, 8 -> text.append(letter).append('m');
                case 9 -> text.append(run % 5 == 0 ? (char) of(33, 126) : letter);
                default -> text.append(letter).append(1 + random.nextInt(3));
            }
        }
        if (run % 7 == 0) {
            text.append(".".repeat(random.nextInt(40)));
        }
        if (random.nextInt(3) > 0) {
            due("wipe", bank.wipe(), model.wipe());
        }
        for (int i = 0; i < text.length(); i++) {
            int sign = text.charAt(i);
            due("say " + sign, bank.say(sign), model.say(sign));
        }
        due("fault", bank.fault(), model.fault());
        if (random.nextInt(3) == 0) {
            due("done", bank.done(), model.done());
        }
    }

    private void askHours() {
        int a = of(0, 5);
        int what = of(0, 3);
        switch (random.nextInt(6)) {
            case 0, 1 -> due("judge " + what, bank.judge(what), model.judge(what));
            case 2 -> due("behind " + a + " " + what, bank.behind(a, what), model.behind(a, what));
            case 3 -> {
                int field = field();
                due("lies " + field, bank.lies(field), model.lies(field));
            }
            case 4 -> due("total " + what, bank.total(what), model.total(what));
            default -> due("ruined " + what, bank.ruined(what), model.ruined(what));
        }
    }

    private void askMeadow() {
        int a = of(0, 5);
        int b = of(0, 5);
        int what = of(0, 1);
        switch (random.nextInt(6)) {
            case 0 -> due("pays " + a + " " + b, bank.pays(a, b), model.pays(a, b));
            case 1, 2 -> due("over " + a + " " + b + " " + what,
                    bank.over(a, b, what), model.over(a, b, what));
            case 3 -> {
                int k = of(1, 6);
                due("bellows " + k + " " + what, bank.bellows(k, what), model.bellows(k, what));
            }
            case 4 -> {
                int m = random.nextBoolean() ? of(0, 12) : of(0, 3);
                due("principal " + m + " " + what, bank.principal(m, what), model.principal(m, what));
            }
            default -> {
                int c = random.nextBoolean() ? of(0, 999) : of(0, 20);
                due("tax " + a + " " + c, bank.tax(a, c), model.tax(a, c));
            }
        }
    }

    private void askBreath() {
        int what = of(0, 1);
        switch (random.nextInt(8)) {
            case 0, 1 -> {
                int b = of(1, 9);
                int each = 1 + run % 9;
                int flew = random.nextInt(4) == 0 ? of(0, 81) : Math.min(b * each, 1 + run % 40);
                due("seen " + b + " " + flew, bank.seen(b, flew), model.seen(b, flew));
            }
            case 2 -> due("forget", bank.forget(), model.forget());
            case 3 -> {
                int i = of(-1, random.nextBoolean() ? 20 : 359);
                due("fits " + i, bank.fits(i), model.fits(i));
            }
            case 4 -> due("tries " + what, bank.tries(what), model.tries(what));
            case 5 -> gusts(of(0, 35), of(-1, 35), of(0, 5), of(0, 1));
            case 6 -> {
                int n = of(0, 99);
                int k = of(1, 9);
                due("lovers " + n + " " + k + " " + what,
                        bank.lovers(n, k, what), model.lovers(n, k, what));
            }
            default -> year(of(0, 9999), of(1, 99), of(0, 2));
        }
    }

    private void gusts(int from, int to, int k, int part) {
        due("gusts " + from + " " + to + " " + k + " " + part,
                bank.gusts(from, to, k, part), model.gusts(from, to, k, part));
    }

    private void year(int seed, int m, int what) {
        due("year " + seed + " " + m + " " + what,
                bank.year(seed, m, what), model.year(seed, m, what));
    }

    private void askState() {
        int what = switch (random.nextInt(4)) {
            case 0 -> of(0, 7);
            case 1 -> 10 * (1 + random.nextInt(7)) + random.nextInt(5);
            case 2 -> 100 + field();
            default -> of(0, 136);
        };
        due("told " + what, bank.told(what), model.told(what));
    }
}
