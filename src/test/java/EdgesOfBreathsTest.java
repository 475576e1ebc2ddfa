/** The boundary cases of promises 20 to 26, a method for each sentence that names one. */
public final class EdgesOfBreathsTest {
    private static final int NONE = SeedBank.NONE;
    private static final int LEAST = Integer.MIN_VALUE;
    private static final int GREATEST = Integer.MAX_VALUE;

    public static void main(String[] args) {
        p20BreathsFrom1To9();
        p20FlewFrom0To81();
        p20EightSights();
        p21NoSightAndEight();
        p22NoSight();
        p22PlacesFromMinusOneOn();
        p22TheLeastAndTheMost();
        p22EachSight();
        p22EightSights();
        p23NoSight();
        p23OneIsLeft();
        p23NothingFits();
        p23TheLeastOfSeveral();
        p23EachSight();
        p24NoGust();
        p24EachEdge();
        p24LostForGood();
        p24GustsFrom0To5();
        p24Refused();
        p25SeedsFrom0To99();
        p25PluckedFrom1To9();
        p26SeedsFrom0To9999();
        p26ActsFrom1To99();
        p26LeftOverBy65537();
        p26EachActThatCanNotBe();
        p26EachWindAndForce();
        p26MowingAndSheep();
        p26AtHour99();
        p26FromAllAsItIs();
        p26AtTheLimits();
        p26NothingIsDone();
        p20To25NothingElseIsAMatter();
        Checks.end();
    }

    private static void p20BreathsFrom1To9() {
        int[] outside = {0, 10, -1, LEAST, GREATEST};
        for (int b : outside) {
            SeedBank x = new SeedBank();
            Checks.due("p20 b " + b, x.seen(b, 0), SeedBank.OUTSIDE);
            Checks.due("p20 none is seen by " + b, x.told(6), 0);
        }
        for (int b = 1; b <= 9; b++) {
            Checks.due("p20 b " + b, new SeedBank().seen(b, 0), 1);
        }
    }

    private static void p20FlewFrom0To81() {
        int[] outside = {-1, 82, LEAST, GREATEST};
        for (int flew : outside) {
            SeedBank x = new SeedBank();
            Checks.due("p20 flew " + flew, x.seen(9, flew), SeedBank.OUTSIDE);
            Checks.due("p20 none is seen of " + flew, x.fits(-1), 360);
        }
        for (int flew = 0; flew <= 81; flew++) {
            Checks.due("p20 flew " + flew, new SeedBank().seen(1, flew), 1);
        }
    }

    private static void p20EightSights() {
        SeedBank x = new SeedBank();
        for (int times = 0; times < 3; times++) {
            for (int i = 1; i <= 8; i++) {
                Checks.due("p20 sight " + i, x.seen(i, i), i);
                Checks.due("p20 told " + i, x.told(6), i);
            }
            Checks.due("p20 the first beyond", x.seen(9, 9), SeedBank.FULL);
            Checks.due("p20 still eight", x.told(6), 8);
            Checks.due("p20 all go", x.forget(), 8);
        }
    }

    private static void p21NoSightAndEight() {
        SeedBank x = new SeedBank();
        Checks.due("p21 no sight", x.forget(), 0);
        Checks.due("p21 no sight again", x.forget(), 0);
        x.seen(1, 81);
        Checks.due("p21 one", x.forget(), 1);
        Checks.due("p21 it is gone", x.fits(-1), 360);
        for (int i = 0; i < 9; i++) {
            x.seen(1, 81);
        }
        Checks.due("p21 eight", x.forget(), 8);
        Checks.due("p21 none any more", x.told(6), 0);
        Checks.due("p21 all fits again", x.fits(-1), 360);
    }

    private static void p22NoSight() {
        SeedBank x = new SeedBank();
        Checks.due("p22 nine by forty", x.fits(-1), 360);
        for (int i = 0; i < 360; i++) {
            Checks.due("p22 place " + i, x.fits(i), 100 * (1 + i / 40) + 1 + i % 40);
        }
        Checks.due("p22 place 360", x.fits(360), NONE);
    }

    private static void p22PlacesFromMinusOneOn() {
        int[] beyond = {360, 361, 400, 1000, GREATEST, -2, -3, -360, LEAST};
        SeedBank x = new SeedBank();
        for (int i : beyond) {
            Checks.due("p22 place " + i, x.fits(i), NONE);
        }
        x.seen(9, 9);
        Checks.due("p22 with 1 and 9 to 40, 2 to 9 and 9", x.fits(-1), 32 + 8);
        Checks.due("p22 the first", x.fits(0), 109);
        Checks.due("p22 the last", x.fits(39), 909);
        Checks.due("p22 the first beyond", x.fits(40), NONE);
        Checks.due("p22 below", x.fits(-2), NONE);
        Checks.due("p22 an old place", x.fits(359), NONE);
    }

    private static void onlyFits(int b, int flew, int many, int first, int last) {
        SeedBank x = new SeedBank();
        x.seen(b, flew);
        String call = "p22 by " + b + " flew " + flew;
        Checks.due(call, x.fits(-1), many);
        Checks.due(call + " first", x.fits(0), first);
        Checks.due(call + " last", x.fits(many - 1), last);
        Checks.due(call + " beyond", x.fits(many), NONE);
    }

    private static void p22TheLeastAndTheMost() {
        onlyFits(1, 1, 40 + 8, 101, 901);
        onlyFits(1, 9, 32, 909, 940);
        onlyFits(9, 40, 5, 540, 940);
        onlyFits(9, 36, 5 + 5, 436, 936);
        onlyFits(9, 1, 9, 101, 901);
        int[][] never = {{1, 0}, {9, 0}, {1, 10}, {9, 41}, {9, 81}, {1, 81}, {5, 41}};
        for (int[] sight : never) {
            SeedBank x = new SeedBank();
            x.seen(sight[0], sight[1]);
            Checks.due("p22 never " + sight[0] + " " + sight[1], x.fits(-1), 0);
            Checks.due("p22 no first", x.fits(0), NONE);
        }
    }

    /** Each SIGHT alone, all twos looked through. */
    private static void p22EachSight() {
        for (int b = 1; b <= 9; b++) {
            for (int flew = 0; flew <= 81; flew++) {
                SeedBank x = new SeedBank();
                x.seen(b, flew);
                int many = 0;
                for (int two = 101; two <= 940; two++) {
                    boolean is = two % 100 >= 1 && two % 100 <= 40;
                    if (is && Math.min(b * (two / 100), two % 100) == flew) {
                        Checks.due("p22 by " + b + " " + flew, x.fits(many), two);
                        many++;
                    }
                }
                Checks.due("p22 many by " + b + " " + flew, x.fits(-1), many);
            }
        }
    }

    private static void p22EightSights() {
        SeedBank x = new SeedBank();
        for (int b = 1; b <= 8; b++) {
            x.seen(b, 5 * b);
            int most = 40 - Math.max(5 * b, 1) + 1;
            Checks.due("p22 with " + b + " sights", x.fits(-1), b == 1 ? 36 + 4 : most);
        }
        Checks.due("p22 one is left of eight", x.fits(0), 540);
        x.forget();
        for (int i = 0; i < 7; i++) {
            x.seen(3, 12);
        }
        Checks.due("p22 seven alike", x.fits(-1), 34);
        x.seen(3, 13);
        Checks.due("p22 the eighth is against them", x.fits(-1), 0);
        Checks.due("p20 full", x.seen(3, 12), SeedBank.FULL);
        Checks.due("p22 a refused one is no sight", x.fits(-1), 0);
    }

    private static void p23NoSight() {
        SeedBank x = new SeedBank();
        // By 9 breaths all with a from 5 on fly as n is.
        Checks.due("p23 no sight", x.tries(0), 9);
        Checks.due("p23 at the most", x.tries(1), 40);
        int[] outside = {-1, 2, LEAST, GREATEST};
        for (int what : outside) {
            Checks.due("p23 what " + what, x.tries(what), SeedBank.OUTSIDE);
        }
    }

    private static void p23OneIsLeft() {
        SeedBank x = new SeedBank();
        x.seen(1, 7);
        x.seen(9, 40);
        Checks.due("p22 one", x.fits(-1), 1);
        Checks.due("p23 the least b", x.tries(0), 1);
        Checks.due("p23 one at the most", x.tries(1), 1);
        for (int i = 0; i < 6; i++) {
            x.seen(1, 7);
        }
        Checks.due("p23 with eight sights too", x.tries(0), 1);
    }

    private static void p23NothingFits() {
        SeedBank x = new SeedBank();
        x.seen(1, 0);
        Checks.due("p23 nothing fits", x.tries(0), NONE);
        Checks.due("p23 nor how many", x.tries(1), NONE);
        Checks.due("p23 what -1 all the same", x.tries(-1), SeedBank.OUTSIDE);
        Checks.due("p23 what 2 all the same", x.tries(2), SeedBank.OUTSIDE);
        x.forget();
        Checks.due("p23 all fits again", x.tries(0), 9);
    }

    private static void p23TheLeastOfSeveral() {
        SeedBank x = new SeedBank();
        x.seen(9, 1);
        // Nine twos with n 1: by each b they fly one and all.
        Checks.due("p23 all the same by each", x.tries(0), 1);
        Checks.due("p23 nine", x.tries(1), 9);
        x.forget();
        x.seen(2, 3);
        // 203 to 903: by 1 breath 2 fly, else 3.
        Checks.due("p22 eight", x.fits(-1), 8);
        Checks.due("p23 one breath", x.tries(0), 1);
        Checks.due("p23 seven", x.tries(1), 7);
    }

    private static void p23EachSight() {
        for (int b = 1; b <= 9; b++) {
            for (int flew = 0; flew <= 81; flew++) {
                SeedBank x = new SeedBank();
                x.seen(b, flew);
                int best = NONE;
                int fewest = NONE;
                for (int next = 9; next >= 1; next--) {
                    int most = mostLeft(b, flew, next);
                    if (most > 0 && (fewest == NONE || most <= fewest)) {
                        best = next;
                        fewest = most;
                    }
                }
                Checks.due("p23 by " + b + " " + flew, x.tries(0), best);
                Checks.due("p23 many by " + b + " " + flew, x.tries(1), fewest);
            }
        }
    }

    private static int mostLeft(int b, int flew, int next) {
        int[] left = new int[82];
        int most = 0;
        for (int a = 1; a <= 9; a++) {
            for (int n = 1; n <= 40; n++) {
                if (Math.min(a * b, n) == flew) {
                    int then = Math.min(a * next, n);
                    left[then]++;
                    most = Math.max(most, left[then]);
                }
            }
        }
        return most;
    }

    private static void fraction(SeedBank x, int from, int to, int k, long upper, long lower) {
        String call = "p24 gusts " + from + " " + to + " " + k;
        Checks.due(call + " upper", x.gusts(from, to, k, 0), upper);
        Checks.due(call + " lower", x.gusts(from, to, k, 1), lower);
    }

    private static void p24NoGust() {
        for (int from = 0; from < 36; from++) {
            SeedBank x = new SeedBank();
            for (int to = -1; to < 36; to++) {
                fraction(x, from, to, 0, from == to ? 1 : 0, 1);
            }
        }
    }

    private static void p24EachEdge() {
        for (int from = 0; from < 36; from++) {
            SeedBank x = new SeedBank();
            boolean column = from % 6 == 0 || from % 6 == 5;
            boolean row = from / 6 == 0 || from / 6 == 5;
            if (column && row) {
                fraction(x, from, -1, 1, 1, 2);
            } else if (column || row) {
                fraction(x, from, -1, 1, 1, 4);
            } else {
                fraction(x, from, -1, 1, 0, 1);
            }
            fraction(x, from, from, 1, 0, 1);
            if (from % 6 == 5 && from < 35) {
                fraction(x, from, from + 1, 1, 0, 1);
                fraction(x, from + 1, from, 1, 0, 1);
            }
        }
    }

    private static void p24LostForGood() {
        SeedBank x = new SeedBank();
        // Of sixteen ways of two from the corner eight go out at once and two with the second.
        fraction(x, 0, -1, 2, 5, 8);
        fraction(x, 0, 0, 2, 1, 8);
        fraction(x, 5, 5, 2, 1, 8);
        fraction(x, 30, 30, 2, 1, 8);
        fraction(x, 35, 35, 2, 1, 8);
        fraction(x, 2, 2, 2, 3, 16);
        fraction(x, 14, 14, 2, 1, 4);
        fraction(x, 35, -1, 5, 103, 128);
    }

    private static long ways(int y, int x, int to, int k) {
        if (y < 0 || y > 5 || x < 0 || x > 5) {
            return to == -1 ? 1L << 2 * k : 0;
        }
        if (k == 0) {
            return 6 * y + x == to ? 1 : 0;
        }
        return ways(y + 1, x, to, k - 1) + ways(y - 1, x, to, k - 1)
                + ways(y, x + 1, to, k - 1) + ways(y, x - 1, to, k - 1);
    }

    private static void p24GustsFrom0To5() {
        for (int k = 0; k <= 5; k++) {
            for (int from = 0; from < 36; from++) {
                SeedBank x = new SeedBank();
                for (int to = -1; to < 36; to++) {
                    long upper = ways(from / 6, from % 6, to, k);
                    long lower = 1L << 2 * k;
                    while (lower > 1 && upper % 2 == 0) {
                        upper /= 2;
                        lower /= 2;
                    }
                    fraction(x, from, to, k, upper, lower);
                }
            }
        }
    }

    private static void p24Refused() {
        SeedBank x = new SeedBank();
        long refused = -1000000000000000002L;
        int[] wild = {LEAST, GREATEST};
        for (int v : wild) {
            Checks.due("p24 from " + v, x.gusts(v, 0, 1, 0), refused);
            Checks.due("p24 to " + v, x.gusts(0, v, 1, 0), refused);
            Checks.due("p24 k " + v, x.gusts(0, 0, v, 0), refused);
            Checks.due("p24 part " + v, x.gusts(0, 0, 1, v), refused);
        }
        Checks.due("p24 from -1", x.gusts(-1, 0, 1, 0), refused);
        Checks.due("p24 from -1 to -1", x.gusts(-1, -1, 1, 0), refused);
        Checks.due("p24 from 36", x.gusts(36, 0, 1, 0), refused);
        Checks.due("p24 to -2", x.gusts(0, -2, 1, 1), refused);
        Checks.due("p24 to 36", x.gusts(0, 36, 1, 1), refused);
        Checks.due("p24 k -1", x.gusts(0, 0, -1, 1), refused);
        Checks.due("p24 k 6", x.gusts(0, 0, 6, 1), refused);
        Checks.due("p24 part -1", x.gusts(0, 0, 1, -1), refused);
        Checks.due("p24 part 2", x.gusts(0, 0, 1, 2), refused);
        Checks.due("p24 all allowed", x.gusts(35, -1, 5, 1), 128);
        Checks.due("p24 all allowed too", x.gusts(0, 35, 5, 1), 1);
    }

    private static void p25SeedsFrom0To99() {
        SeedBank x = new SeedBank();
        for (int k = 1; k <= 9; k++) {
            Checks.due("p25 no seed by " + k, x.lovers(0, k, 0), 0);
            Checks.due("p25 none to pluck by " + k, x.lovers(0, k, 1), NONE);
            Checks.due("p25 one by " + k, x.lovers(1, k, 0), 1);
            Checks.due("p25 the only one by " + k, x.lovers(1, k, 1), 1);
            Checks.due("p25 all at once by " + k, x.lovers(k, k, 1), k);
            Checks.due("p25 one too many by " + k, x.lovers(k + 1, k, 0), 0);
            Checks.due("p25 nothing helps by " + k, x.lovers(k + 1, k, 1), NONE);
            Checks.due("p25 one more by " + k, x.lovers(k + 2, k, 1), 1);
        }
        int[] firsts = {1, NONE, 3, 4, 3, 1, 3, NONE, 9};
        for (int k = 1; k <= 9; k++) {
            Checks.due("p25 99 by " + k, x.lovers(99, k, 1), firsts[k - 1]);
            Checks.due("p25 whether 99 by " + k, x.lovers(99, k, 0), firsts[k - 1] > 0 ? 1 : 0);
        }
        int[] outside = {-1, 100, LEAST, GREATEST};
        for (int n : outside) {
            Checks.due("p25 n " + n, x.lovers(n, 1, 0), SeedBank.OUTSIDE);
            Checks.due("p25 first of n " + n, x.lovers(n, 9, 1), SeedBank.OUTSIDE);
        }
    }

    private static void p25PluckedFrom1To9() {
        SeedBank x = new SeedBank();
        int[] outside = {0, 10, -1, -2, LEAST, GREATEST};
        for (int k : outside) {
            Checks.due("p25 k " + k, x.lovers(50, k, 0), SeedBank.OUTSIDE);
            Checks.due("p25 k " + k + " of none", x.lovers(0, k, 1), SeedBank.OUTSIDE);
        }
        int[] whats = {-1, 2, LEAST, GREATEST};
        for (int what : whats) {
            Checks.due("p25 what " + what, x.lovers(50, 5, what), SeedBank.OUTSIDE);
        }
    }

    /** Six families in the south row, so that all they blow comes one to the north. */
    private static SeedBank row(int seeds, int lungs) {
        SeedBank x = new SeedBank();
        for (int f = 0; f < 6; f++) {
            x.family(f, f, seeds, lungs);
        }
        return x;
    }

    private static int draw(int x) {
        return (int) ((75L * x + 74) % 65537);
    }

    private static int kindOf(int x) {
        return x / 6 % 8;
    }

    private static boolean isPuff(int x) {
        return kindOf(x) <= 2;
    }

    private static int puffOf(int x) {
        return 1 + x / 48 % 9;
    }

    private static void p26SeedsFrom0To9999() {
        SeedBank x = row(60, 9);
        int[] outside = {-1, 10000, LEAST, GREATEST};
        for (int seed : outside) {
            Checks.due("p26 seed " + seed, x.year(seed, 1, 0), SeedBank.OUTSIDE);
        }
        // Of 0 it is 74: kind 4 of C, a cough.
        Checks.due("p26 seed 0", x.year(0, 1, 0), 300);
        Checks.due("p26 seed 0 lies", x.year(0, 1, 1), 60);
        // Of 9999 it is 749999 - 11 * 65537 = 29092: kind 0 of E, a puff of 1 + 3.
        Checks.due("p26 seed 9999", x.year(9999, 1, 0), 356);
        Checks.due("p26 seed 9999 lies", x.year(9999, 1, 1), 4);
        int[] whats = {-1, 3, LEAST, GREATEST};
        for (int what : whats) {
            Checks.due("p26 what " + what, x.year(0, 1, what), SeedBank.OUTSIDE);
        }
    }

    private static void p26ActsFrom1To99() {
        SeedBank x = row(60, 9);
        int[] outside = {0, 100, -1, LEAST, GREATEST};
        for (int m : outside) {
            Checks.due("p26 m " + m, x.year(0, m, 0), SeedBank.OUTSIDE);
        }
        for (int m = 1; m <= 99; m++) {
            long together = x.year(77, m, 0) + x.year(77, m, 1) + x.year(77, m, 2);
            Checks.due("p26 none is made in " + m, together, 360);
        }
        // The least year is one ACT, no matter whether it can be.
        SeedBank empty = new SeedBank();
        Checks.due("p26 one act of none", empty.year(0, 1, 0), 0);
        Checks.due("p26 99 acts of none", empty.year(0, 99, 1), 0);
        Checks.due("p26 99 acts lose nothing", empty.year(0, 99, 2), 0);
    }

    /** 872 is the greatest seed that is drawn from without anything left out. */
    private static void p26LeftOverBy65537() {
        Checks.due("p26 of 872", draw(872), 65474);
        Checks.due("p26 of 873", draw(873), 12);
        // 65474 is of C, kind 0, a puff of 1 + 5; 12 is of A, kind 2, a puff of 1 + 0.
        SeedBank x = row(60, 9);
        Checks.due("p26 seed 872", x.year(872, 1, 1), 6);
        Checks.due("p26 seed 873", x.year(873, 1, 1), 1);
        SeedBank alone = new SeedBank();
        alone.family(0, 0, 60, 9);
        Checks.due("p26 A is not C", alone.year(872, 1, 1), 0);
        Checks.due("p26 A puffs", alone.year(873, 1, 1), 1);
        for (int seed = 0; seed <= 9999; seed += 11) {
            int first = draw(seed);
            SeedBank y = row(60, 9);
            long blown = isPuff(first) ? puffOf(first) : kindOf(first) == 4 ? 60 : 0;
            Checks.due("p26 one act of " + seed, y.year(seed, 1, 1), blown);
            Checks.due("p26 what is left of " + seed, y.year(seed, 1, 0), 360 - blown);
        }
    }

    /** One that can not be is one of the m, too: the next draw is the second, not the first. */
    private static void p26EachActThatCanNotBe() {
        int puffs = 0;
        for (int seed = 0; seed <= 9999; seed++) {
            int first = draw(seed);
            int second = draw(first);
            boolean two = isPuff(first) && isPuff(second) && first % 6 != second % 6;
            if (two && puffs < 60) {
                puffs++;
                SeedBank x = new SeedBank();
                x.family(second % 6, 0, 60, 9);
                int many = puffOf(second);
                Checks.due("p26 nobody puffs " + seed, x.year(seed, 1, 1), 0);
                Checks.due("p26 then one does " + seed, x.year(seed, 2, 1), many);
                x.family(second % 6, 0, many - 1, 9);
                Checks.due("p26 too few " + seed, x.year(seed, 2, 1), 0);
                x.family(second % 6, 0, many, many);
                Checks.due("p26 just enough " + seed, x.year(seed, 2, 0), 0);
                if (many > 1) {
                    x.family(second % 6, 0, 60, many - 1);
                    Checks.due("p26 too little breath " + seed, x.year(seed, 2, 1), 0);
                }
                x.family(second % 6, 0, 60, 9);
                x.set(2, 1);
                Checks.due("p26 it rains " + seed, x.year(seed, 2, 1), 0);
            }
        }
        Checks.due("p26 enough years were found", puffs, 60);
    }

    /** A WIND that is drawn, and then a puff by it from each corner. */
    private static void p26EachWindAndForce() {
        boolean[] ways = new boolean[24];
        for (int seed = 0; seed <= 9999; seed++) {
            int first = draw(seed);
            int second = draw(first);
            if (kindOf(first) == 5 && isPuff(second)) {
                int wind = first / 48 % 4;
                int force = first / 192 % 6;
                ways[6 * wind + force] = true;
                for (int from : new int[] {0, 5, 30, 35}) {
                    drawnPuff(seed, from, wind, force, second);
                }
            }
        }
        for (int way = 0; way < 24; way++) {
            Checks.holds("p26 a year was found with way " + way, ways[way]);
        }
    }

    private static void drawnPuff(int seed, int from, int wind, int force, int puff) {
        int y = from / 6 + (wind == 0 ? force : wind == 2 ? -force : 0);
        int e = from % 6 + (wind == 1 ? force : wind == 3 ? -force : 0);
        boolean inside = y >= 0 && y <= 5 && e >= 0 && e <= 5;
        boolean home = force == 0;
        int many = puffOf(puff);
        SeedBank x = new SeedBank();
        x.set(1, home ? 1 : 0);
        x.family(puff % 6, from, 60, 9);
        String call = "p26 from " + from + " of " + seed;
        Checks.due(call, x.year(seed, 2, 0), home ? 60 : 60 - many);
        Checks.due(call + " lies", x.year(seed, 2, 1), inside && !home ? many : 0);
        Checks.due(call + " lost", x.year(seed, 2, 2), inside ? 0 : many);
        if (inside && !home) {
            x.family((puff + 1) % 6, 6 * y + e, 60, 9);
            x.lay(6 * y + e, 999);
            Checks.due(call + " onto one that is full", x.year(seed, 2, 0), 120 - many);
            Checks.due(call + " where no more can lie", x.year(seed, 2, 1), 999);
            Checks.due(call + " all is lost", x.year(seed, 2, 2), many);
        }
    }

    private static void p26MowingAndSheep() {
        for (int seed = 0; seed <= 9999; seed += 7) {
            int x = draw(seed);
            int kind = kindOf(x);
            if (kind == 3 || kind == 6) {
                SeedBank its = new SeedBank();
                its.family(x % 6, 35, 10, 1);
                its.lay(35, 51);
                Checks.due("p26 mows of " + seed, its.year(seed, 1, 0), kind == 3 ? 60 : 10);
                Checks.due("p26 what it left of " + seed, its.year(seed, 1, 1), kind == 3 ? 1 : 26);
                Checks.due("p26 the sheep of " + seed, its.year(seed, 1, 2), kind == 3 ? 0 : 25);
                SeedBank other = new SeedBank();
                other.family((x + 1) % 6, 35, 10, 1);
                other.lay(35, 51);
                Checks.due("p26 no other mows of " + seed, other.year(seed, 1, 0), 10);
                other.lay(35, 0);
                Checks.due("p26 nothing lies of " + seed, other.year(seed, 1, 0), 10);
            }
        }
    }

    /** A puff, an hour, a puff of the same FAMILY: the second needs the breath of the hour. */
    private static void p26AtHour99() {
        int found = 0;
        for (int seed = 0; seed <= 9999; seed++) {
            int first = draw(seed);
            int hour = draw(first);
            int last = draw(hour);
            boolean so = isPuff(first) && kindOf(hour) == 7 && isPuff(last)
                    && first % 6 == last % 6;
            if (so) {
                found++;
                int lungs = Math.max(puffOf(first), puffOf(last));
                int both = puffOf(first) + puffOf(last);
                SeedBank x = new SeedBank();
                x.family(first % 6, 0, 60, lungs);
                Checks.due("p26 at hour 0 " + seed, x.year(seed, 3, 1), both);
                Checks.say(x, ".".repeat(60));
                x.done();
                Checks.say(x, ".".repeat(38));
                x.done();
                Checks.due("p26 at hour 98 " + seed, x.year(seed, 3, 1), both);
                Checks.say(x, ".");
                x.done();
                Checks.due("p26 at hour 99 " + seed, x.year(seed, 3, 1), puffOf(first));
            }
        }
        Checks.holds("p26 a year was found at least", found > 0);
    }

    private static void p26FromAllAsItIs() {
        // Of 873 it is 12, a puff of one by A.
        SeedBank x = new SeedBank();
        x.family(0, 0, 60, 9);
        Checks.say(x, "w05");
        Checks.due("p26 what is said is not so yet", x.year(873, 1, 2), 0);
        x.done();
        x.set(0, 2);
        Checks.due("p26 the wind as it is", x.year(873, 1, 2), 1);
        Checks.say(x, "A9");
        x.done();
        Checks.due("p26 lost as it is", x.year(873, 1, 2), 9);
        Checks.due("p26 blown as it is", x.year(873, 1, 0), 51);
        Checks.say(x, ".");
        x.done();
        Checks.due("p26 a new hour", x.year(873, 1, 0), 50);
        Checks.due("p26 lost with it", x.year(873, 1, 2), 10);
        x.say('!');
        Checks.due("p26 a fault is no matter", x.year(873, 1, 0), 50);
    }

    private static void p26AtTheLimits() {
        SeedBank x = new SeedBank();
        x.family(0, 0, 60, 9);
        x.lay(6, 999);
        Checks.due("p26 999 at most", x.year(873, 1, 1), 999);
        Checks.due("p26 what is above is lost", x.year(873, 1, 2), 1);
        x.family(1, 6, 60, 1);
        x.lay(6, 998);
        Checks.due("p26 sixty at most", x.year(873, 1, 0), 119);
        Checks.due("p26 what is above lies", x.year(873, 1, 1), 999);
        Checks.due("p26 none is lost", x.year(873, 1, 2), 0);
        x.lay(6, 999);
        Checks.due("p26 lost above both", x.year(873, 1, 2), 1);
        x.family(1, 6, 59, 1);
        Checks.due("p26 room for one", x.year(873, 1, 0), 119);
        SeedBank full = row(60, 9);
        for (int field = 0; field < 36; field++) {
            full.lay(field, 999);
        }
        long all = 36 * 999 + 360;
        for (int m = 33; m <= 99; m += 33) {
            long together = full.year(9999, m, 0) + full.year(9999, m, 1) + full.year(9999, m, 2);
            Checks.due("p26 of all that can be " + m, together, all);
        }
    }

    private static void p26NothingIsDone() {
        SeedBank x = row(60, 9);
        x.lay(35, 999);
        long[] before = Probe.allButSigns(x);
        for (int seed = 0; seed <= 9999; seed += 1111) {
            x.year(seed, 99, seed % 3);
        }
        long[] behind = Probe.allButSigns(x);
        for (int i = 0; i < before.length; i++) {
            Checks.due("p26 changes nothing " + i, behind[i], before[i]);
        }
    }

    private static String breathsOf(SeedBank x) {
        StringBuilder answers = new StringBuilder();
        answers.append(x.seen(9, 81)).append(' ').append(x.forget());
        answers.append(' ').append(x.seen(3, 12));
        for (int i = -1; i < 40; i++) {
            answers.append(' ').append(x.fits(i));
        }
        answers.append(' ').append(x.tries(0)).append(' ').append(x.tries(1));
        for (int to = -1; to < 36; to++) {
            answers.append(' ').append(x.gusts(14, to, 4, 0));
            answers.append('/').append(x.gusts(14, to, 4, 1));
        }
        for (int n = 0; n <= 99; n++) {
            answers.append(' ').append(x.lovers(n, 4, 1));
        }
        return answers.toString();
    }

    /** Breaths that were seen, gusts and lovers do not ask how the meadow is. */
    private static void p20To25NothingElseIsAMatter() {
        String want = breathsOf(new SeedBank());
        SeedBank x = row(60, 9);
        x.set(0, 3);
        x.set(1, 5);
        x.set(2, 1);
        x.lay(14, 999);
        x.lay(20, 999);
        Checks.say(x, "A9~");
        Checks.holds("p20 to p25 in wind and rain", breathsOf(x).equals(want));
        SeedBank rain = row(0, 1);
        rain.set(2, 1);
        rain.set(1, 0);
        Checks.say(rain, ".....");
        rain.done();
        Checks.holds("p20 to p25 behind hours", breathsOf(rain).equals(want));
    }
}
