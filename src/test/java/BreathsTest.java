/** Promises 20 to 26: seen, forget, fits, tries, gusts, lovers, year. */
public final class BreathsTest {
    /** Longer years, with what the Model told of them. */
    private static final int[] SEEDS = {2, 17, 123, 4567, 8888, 9999};
    private static final int[] ACTS = {2, 5, 9, 14, 40, 99};
    private static final int[] LEFT = {200, 228, 218, 187, 102, 51};
    private static final int[] LYING = {79, 46, 28, 29, 16, 5};
    private static final int[] LOST = {0, 5, 33, 63, 161, 223};

    public static void main(String[] args) {
        seen();
        fits();
        fitsRising();
        tries();
        gusts();
        gustsSumUp();
        gustsRefused();
        lovers();
        loversPlayed();
        yearRefused();
        years();
        Checks.end();
    }

    private static void seen() {
        SeedBank x = new SeedBank();
        Checks.due("p20 b 0", x.seen(0, 1), SeedBank.OUTSIDE);
        Checks.due("p20 b 10", x.seen(10, 1), SeedBank.OUTSIDE);
        Checks.due("p20 flew -1", x.seen(1, -1), SeedBank.OUTSIDE);
        Checks.due("p20 flew 82", x.seen(1, 82), SeedBank.OUTSIDE);
        Checks.due("p20 none yet", x.told(6), 0);
        Checks.due("p20 first", x.seen(1, 0), 1);
        Checks.due("p20 second", x.seen(9, 81), 2);
        for (int i = 3; i <= 8; i++) {
            Checks.due("p20 sight " + i, x.seen(3, 12), i);
        }
        Checks.due("p20 full", x.seen(3, 12), SeedBank.FULL);
        Checks.due("p20 outside ahead of full", x.seen(3, 82), SeedBank.OUTSIDE);
        Checks.due("p20 told", x.told(6), 8);
        Checks.due("p21 forget", x.forget(), 8);
        Checks.due("p21 none left", x.forget(), 0);
        Checks.due("p21 told", x.told(6), 0);
        Checks.due("p22 all fit again", x.fits(-1), 360);
        Checks.due("p20 again", x.seen(3, 12), 1);
    }

    private static void fits() {
        SeedBank x = new SeedBank();
        Checks.due("p22 all", x.fits(-1), 360);
        Checks.due("p22 first", x.fits(0), 101);
        Checks.due("p22 fortieth", x.fits(39), 140);
        Checks.due("p22 next", x.fits(40), 201);
        Checks.due("p22 last", x.fits(359), 940);
        Checks.due("p22 beyond", x.fits(360), SeedBank.NONE);
        Checks.due("p22 far beyond", x.fits(Integer.MAX_VALUE), SeedBank.NONE);
        Checks.due("p22 below", x.fits(-2), SeedBank.NONE);
        Checks.due("p22 far below", x.fits(Integer.MIN_VALUE), SeedBank.NONE);
        x.seen(9, 41);
        Checks.due("p22 none flies so", x.fits(-1), 0);
        Checks.due("p22 none to tell", x.fits(0), SeedBank.NONE);
        Checks.due("p22 none to tell below", x.fits(-2), SeedBank.NONE);
        x.forget();
        x.seen(9, 40);
        Checks.due("p22 most can be", x.fits(-1), 5);
        Checks.due("p22 540", x.fits(0), 540);
        Checks.due("p22 940", x.fits(4), 940);
        x.forget();
        x.seen(2, 0);
        Checks.due("p22 none fly never", x.fits(-1), 0);
        x.forget();
        x.seen(9, 81);
        Checks.due("p22 81 fly never", x.fits(-1), 0);
    }

    private static void fitsRising() {
        SeedBank x = new SeedBank();
        x.seen(3, 12);
        Checks.due("p22 3 and 12", x.fits(-1), 29 + 5);
        Checks.due("p22 412", x.fits(0), 412);
        Checks.due("p22 440", x.fits(28), 440);
        Checks.due("p22 512", x.fits(29), 512);
        Checks.due("p22 912", x.fits(33), 912);
        Checks.due("p22 no more", x.fits(34), SeedBank.NONE);
        x.seen(5, 12);
        Checks.due("p22 by both", x.fits(-1), 6);
        Checks.due("p22 by both the first", x.fits(0), 412);
        Checks.due("p22 by both the second", x.fits(1), 512);
        x.seen(3, 11);
        Checks.due("p22 against each other", x.fits(-1), 0);
    }

    private static void tries() {
        SeedBank x = new SeedBank();
        Checks.due("p23 at first", x.tries(0), 9);
        Checks.due("p23 how many", x.tries(1), 40);
        Checks.due("p23 what -1", x.tries(-1), SeedBank.OUTSIDE);
        Checks.due("p23 what 2", x.tries(2), SeedBank.OUTSIDE);
        x.seen(9, 5);
        Checks.due("p23 nine left", x.tries(0), 1);
        Checks.due("p23 five of them", x.tries(1), 5);
        x.seen(1, 7);
        Checks.due("p23 nothing fits", x.tries(0), SeedBank.NONE);
        Checks.due("p23 nothing fits either", x.tries(1), SeedBank.NONE);
        Checks.due("p23 outside though nothing fits", x.tries(2), SeedBank.OUTSIDE);
        x.forget();
        x.seen(3, 12);
        // By 9 breaths 412 to 440 fly 12 to 36, five of them 36, and 512 to 912 fly 12.
        Checks.due("p23 34 left", x.tries(0), 9);
        Checks.due("p23 six at the most", x.tries(1), 6);
        // With 800 and 8 to 40 one more fits, 908; by 5 all fly as n is, those two 8.
        int[][] alone = {{8, 5, 2}, {7, 6, 3}, {6, 7, 4}, {5, 8, 5}};
        for (int[] row : alone) {
            x.forget();
            x.seen(1, row[0]);
            Checks.due("p23 by one breath " + row[0], x.tries(0), row[1]);
            Checks.due("p23 left by one breath " + row[0], x.tries(1), row[2]);
        }
        x.forget();
        x.seen(1, 1);
        x.seen(2, 2);
        x.seen(9, 9);
        Checks.due("p23 all the same", x.tries(0), 1);
        Checks.due("p23 32 left", x.tries(1), 32);
    }

    private static void gusts() {
        SeedBank x = new SeedBank();
        fraction(x, 14, 14, 0, 1, 1);
        fraction(x, 14, 15, 0, 0, 1);
        fraction(x, 14, -1, 0, 0, 1);
        fraction(x, 14, 20, 1, 1, 4);
        fraction(x, 14, 15, 1, 1, 4);
        fraction(x, 14, 8, 1, 1, 4);
        fraction(x, 14, 13, 1, 1, 4);
        fraction(x, 14, 14, 1, 0, 1);
        fraction(x, 14, 14, 2, 1, 4);
        fraction(x, 14, 21, 2, 1, 8);
        fraction(x, 0, -1, 1, 1, 2);
        fraction(x, 1, -1, 1, 1, 4);
        fraction(x, 35, -1, 1, 1, 2);
        fraction(x, 5, 6, 1, 0, 1);
        fraction(x, 5, 11, 1, 1, 4);
        fraction(x, 0, 0, 2, 1, 8);
        fraction(x, 0, -1, 2, 5, 8);
        fraction(x, 0, -1, 5, 103, 128);
        fraction(x, 35, 35, 4, 5, 128);
        fraction(x, 0, 5, 5, 1, 1024);
    }

    private static void fraction(SeedBank x, int from, int to, int k, long upper, long lower) {
        String call = "p24 gusts " + from + " " + to + " " + k;
        Checks.due(call + " upper", x.gusts(from, to, k, 0), upper);
        Checks.due(call + " lower", x.gusts(from, to, k, 1), lower);
    }

    /** All ends of a seed together are 1. */
    private static void gustsSumUp() {
        for (int k = 0; k <= 5; k++) {
            SeedBank x = new SeedBank();
            long sum = 0;
            for (int to = -1; to < 36; to++) {
                sum += x.gusts(9, to, k, 0) * (1024 / x.gusts(9, to, k, 1));
            }
            Checks.due("p24 all ends by " + k, sum, 1024);
        }
    }

    private static void gustsRefused() {
        SeedBank x = new SeedBank();
        long refused = SeedBank.GONE + SeedBank.OUTSIDE;
        Checks.due("p24 from -1", x.gusts(-1, 0, 1, 0), refused);
        Checks.due("p24 from 36", x.gusts(36, 0, 1, 0), refused);
        Checks.due("p24 to -2", x.gusts(0, -2, 1, 0), refused);
        Checks.due("p24 to 36", x.gusts(0, 36, 1, 0), refused);
        Checks.due("p24 k -1", x.gusts(0, 0, -1, 0), refused);
        Checks.due("p24 k 6", x.gusts(0, 0, 6, 0), refused);
        Checks.due("p24 part -1", x.gusts(0, 0, 1, -1), refused);
        Checks.due("p24 part 2", x.gusts(0, 0, 1, 2), refused);
        Checks.due("p24 refused", refused, -1000000000000000002L);
    }

    private static void lovers() {
        SeedBank x = new SeedBank();
        Checks.due("p25 none there", x.lovers(0, 1, 0), 0);
        Checks.due("p25 none to pluck", x.lovers(0, 1, 1), SeedBank.NONE);
        Checks.due("p25 one", x.lovers(1, 1, 0), 1);
        Checks.due("p25 pluck it", x.lovers(1, 1, 1), 1);
        Checks.due("p25 two", x.lovers(2, 1, 0), 0);
        Checks.due("p25 nothing helps", x.lovers(2, 1, 1), SeedBank.NONE);
        Checks.due("p25 14 by 3", x.lovers(14, 3, 1), 2);
        Checks.due("p25 99 by 9", x.lovers(99, 9, 1), 9);
        Checks.due("p25 90 by 9", x.lovers(90, 9, 0), 0);
        Checks.due("p25 n -1", x.lovers(-1, 1, 0), SeedBank.OUTSIDE);
        Checks.due("p25 n 100", x.lovers(100, 1, 0), SeedBank.OUTSIDE);
        Checks.due("p25 k 0", x.lovers(1, 0, 0), SeedBank.OUTSIDE);
        Checks.due("p25 k 10", x.lovers(1, 10, 0), SeedBank.OUTSIDE);
        Checks.due("p25 what -1", x.lovers(1, 1, -1), SeedBank.OUTSIDE);
        Checks.due("p25 what 2", x.lovers(1, 1, 2), SeedBank.OUTSIDE);
    }

    /** Every game played out from its end. */
    private static void loversPlayed() {
        for (int k = 1; k <= 9; k++) {
            SeedBank x = new SeedBank();
            boolean[] wins = new boolean[100];
            for (int n = 0; n <= 99; n++) {
                int least = SeedBank.NONE;
                for (int pluck = Math.min(k, n); pluck >= 1; pluck--) {
                    if (!wins[n - pluck]) {
                        least = pluck;
                    }
                }
                wins[n] = least != SeedBank.NONE;
                Checks.due("p25 " + n + " by " + k, x.lovers(n, k, 0), wins[n] ? 1 : 0);
                Checks.due("p25 first of " + n + " by " + k, x.lovers(n, k, 1), least);
            }
        }
    }

    private static void yearRefused() {
        SeedBank x = new SeedBank();
        Checks.due("p26 seed -1", x.year(-1, 1, 0), SeedBank.OUTSIDE);
        Checks.due("p26 seed 10000", x.year(10000, 1, 0), SeedBank.OUTSIDE);
        Checks.due("p26 m 0", x.year(0, 0, 0), SeedBank.OUTSIDE);
        Checks.due("p26 m 100", x.year(0, 100, 0), SeedBank.OUTSIDE);
        Checks.due("p26 what -1", x.year(0, 1, -1), SeedBank.OUTSIDE);
        Checks.due("p26 what 3", x.year(0, 1, 3), SeedBank.OUTSIDE);
        Checks.due("p26 least", x.year(0, 1, 0), 0);
        Checks.due("p26 most", x.year(9999, 99, 2), 0);
    }

    /** One ACT a seed: each kind is drawn once at least, with what it does told by hand. */
    private static void years() {
        SeedBank x = new SeedBank();
        x.set(1, 5);
        for (int f = 0; f < 6; f++) {
            x.family(f, 7 * f, 40, 9);
        }
        x.lay(20, 9);
        // The draw of 0 is 74: C, kind 4, a cough from 14 five to the north.
        Checks.due("p26 a cough", x.year(0, 1, 0), 200);
        Checks.due("p26 a cough lies nowhere", x.year(0, 1, 1), 9);
        Checks.due("p26 a cough is lost", x.year(0, 1, 2), 40);
        // Of 1 it is 149: F, kind 0, a puff of 1 + 3 from 35.
        Checks.due("p26 a puff", x.year(1, 1, 0), 236);
        Checks.due("p26 a puff is lost", x.year(1, 1, 2), 4);
        // Of 2 it is 224: C, kind 5, wind and force.
        Checks.due("p26 a wind", x.year(2, 1, 2), 0);
        // Of 3 it is 299: F, kind 1, a puff of 1 + 6.
        Checks.due("p26 a puff too", x.year(3, 1, 2), 7);
        // Of 4 it is 374: C, kind 6, sheep.
        Checks.due("p26 sheep", x.year(4, 1, 1), 5);
        Checks.due("p26 sheep too", x.year(4, 1, 2), 4);
        // Of 5 it is 449: F, kind 2, a puff of 1 + 0.
        Checks.due("p26 a third puff", x.year(5, 1, 2), 1);
        // Of 6 it is 524: C, kind 7, an hour; of 7 599: F, kind 3, it mows what lies in 35.
        Checks.due("p26 an hour", x.year(6, 1, 0), 240);
        Checks.due("p26 nothing to mow", x.year(7, 1, 0), 240);
        x.lay(35, 30);
        Checks.due("p26 it mows", x.year(7, 1, 0), 260);
        Checks.due("p26 what it left", x.year(7, 1, 1), 9 + 10);
        x.set(2, 1);
        Checks.due("p26 none coughs in rain", x.year(0, 1, 0), 240);
        Checks.due("p26 none puffs in rain", x.year(1, 1, 0), 240);
        x.set(2, 0);
        for (int i = 0; i < 6; i++) {
            Checks.due("p26 a year of " + i, x.year(SEEDS[i], ACTS[i], 0), LEFT[i]);
            Checks.due("p26 what lies of " + i, x.year(SEEDS[i], ACTS[i], 1), LYING[i]);
            Checks.due("p26 what is lost of " + i, x.year(SEEDS[i], ACTS[i], 2), LOST[i]);
        }
        Checks.due("p26 nothing is done", x.told(7), 0);
        Checks.due("p26 nothing is done with hours", x.told(5), 0);
    }
}
