import java.util.function.Supplier;
import java.util.function.ToLongFunction;

/**
 * Each refusal alone, each two and more at once with the one that the document puts first, and
 * that a refused call changes nothing: a twin that was not called answers alike to all behind it.
 */
public final class RefusalsTest {
    private static final int UNKNOWN = SeedBank.UNKNOWN;
    private static final int OUTSIDE = SeedBank.OUTSIDE;
    private static final int STATE = SeedBank.STATE;
    private static final int FULL = SeedBank.FULL;
    private static final int NO = SeedBank.NO;
    private static final int NONE = SeedBank.NONE;
    private static final int[] WILD = {Integer.MIN_VALUE, Integer.MAX_VALUE};

    private static final Supplier<SeedBank> EMPTY = SeedBank::new;
    private static final Supplier<SeedBank> IDLE = () -> village("");
    private static final Supplier<SeedBank> FINE = () -> village("w13A4.r");
    private static final Supplier<SeedBank> FAULTY = () -> village("w13A4B");
    private static final Supplier<SeedBank> BARRED = () -> village("w13A4A1");
    private static final Supplier<SeedBank> FAULTY_AND_BARRED = () -> village("w13A4A1B");

    public static void main(String[] args) {
        p02Family();
        p03Leave();
        p04Lay();
        p05Set();
        p06Say();
        p09Judge();
        p10Behind();
        p11Lies();
        p12Total();
        p13Ruined();
        p14Done();
        p15Pays();
        p16Over();
        p17Bellows();
        p18Principal();
        p19Tax();
        p20Seen();
        p22Fits();
        p23Tries();
        p24Gusts();
        p25Lovers();
        p26Year();
        p27Image();
        p28Restore();
        p29Told();
        Checks.end();
    }

    /** A on 0, B on 3 and C on 21; D, E and F are not; a kept IMAGE, three SIGHTS, some LOST. */
    private static SeedBank village(String text) {
        SeedBank x = new SeedBank();
        x.family(0, 5, 7, 7);
        x.family(3, 9, 60, 9);
        x.lay(33, 3);
        x.image(0);
        x.leave(3);
        x.family(0, 0, 30, 4);
        x.family(1, 3, 58, 9);
        x.family(2, 21, 4, 9);
        x.lay(7, 999);
        Checks.say(x, "C1.w25C2s.w01");
        x.done();
        x.seen(3, 12);
        x.seen(1, 4);
        x.seen(9, 36);
        Checks.say(x, text);
        return x;
    }

    private static SeedBank allSix() {
        SeedBank x = village("rD1");
        x.family(3, 8, 0, 1);
        x.family(4, 9, 60, 9);
        x.family(5, 35, 1, 1);
        return x;
    }

    private static SeedBank fullOfSights() {
        SeedBank x = village("!");
        for (int i = 0; i < 5; i++) {
            x.seen(3, 12);
        }
        return x;
    }

    private static void refused(String what, Supplier<SeedBank> state,
            ToLongFunction<SeedBank> call, long want) {
        SeedBank called = state.get();
        Checks.due(what, call.applyAsLong(called), want);
        Checks.due(what + ", again", call.applyAsLong(called), want);
        Probe.alike(what, called, state.get());
    }

    private static void p02Family() {
        for (int family : new int[] {-1, 6, WILD[0], WILD[1]}) {
            refused("p02 unknown " + family, FINE, x -> x.family(family, 5, 10, 4), UNKNOWN);
            refused("p02 unknown and field", FINE, x -> x.family(family, 36, 10, 4), UNKNOWN);
            refused("p02 unknown and seeds", FINE, x -> x.family(family, 5, 61, 4), UNKNOWN);
            refused("p02 unknown and lungs", FINE, x -> x.family(family, 5, 10, 0), UNKNOWN);
            refused("p02 unknown and state", FINE, x -> x.family(family, 0, 10, 4), UNKNOWN);
            refused("p02 all three", FINE, x -> x.family(family, 0, -1, 10), UNKNOWN);
        }
        for (int field : new int[] {-1, 36, WILD[0], WILD[1]}) {
            refused("p02 field " + field, FINE, x -> x.family(3, field, 10, 4), OUTSIDE);
            refused("p02 field of one that is", FINE, x -> x.family(0, field, 10, 4), OUTSIDE);
            refused("p02 field and seeds", FINE, x -> x.family(3, field, 61, 4), OUTSIDE);
            refused("p02 field and lungs", FINE, x -> x.family(3, field, 10, 0), OUTSIDE);
        }
        for (int seeds : new int[] {-1, 61, WILD[0], WILD[1]}) {
            refused("p02 seeds " + seeds, FINE, x -> x.family(3, 5, seeds, 4), OUTSIDE);
            refused("p02 seeds of one that is", FINE, x -> x.family(0, 0, seeds, 4), OUTSIDE);
            refused("p02 seeds and lungs", FINE, x -> x.family(3, 5, seeds, 10), OUTSIDE);
            refused("p02 seeds and state", FINE, x -> x.family(3, 0, seeds, 4), OUTSIDE);
        }
        for (int lungs : new int[] {0, 10, WILD[0], WILD[1]}) {
            refused("p02 lungs " + lungs, FINE, x -> x.family(3, 5, 10, lungs), OUTSIDE);
            refused("p02 lungs of one that is", FINE, x -> x.family(0, 0, 10, lungs), OUTSIDE);
            refused("p02 lungs and state", FINE, x -> x.family(3, 0, 10, lungs), OUTSIDE);
        }
        refused("p02 state of a new one", FINE, x -> x.family(3, 21, 10, 4), STATE);
        refused("p02 state of one that is", FINE, x -> x.family(0, 21, 10, 4), STATE);
        refused("p02 state among six", RefusalsTest::allSix, x -> x.family(5, 8, 1, 1), STATE);
    }

    private static void p03Leave() {
        for (int family : new int[] {-1, 6, 3, 4, 5, 32, WILD[0], WILD[1]}) {
            refused("p03 leave " + family, FINE, x -> x.leave(family), UNKNOWN);
        }
        refused("p03 leave of none", EMPTY, x -> x.leave(0), UNKNOWN);
    }

    private static void p04Lay() {
        for (int field : new int[] {-1, 36, WILD[0], WILD[1]}) {
            refused("p04 field " + field, FINE, x -> x.lay(field, 1), OUTSIDE);
            refused("p04 field and seeds", FINE, x -> x.lay(field, 1000), OUTSIDE);
        }
        for (int seeds : new int[] {-1, 1000, WILD[0], WILD[1]}) {
            refused("p04 seeds " + seeds, FINE, x -> x.lay(7, seeds), OUTSIDE);
        }
    }

    private static void p05Set() {
        for (int which : new int[] {-1, 3, WILD[0], WILD[1]}) {
            refused("p05 which " + which, FINE, x -> x.set(which, 1), OUTSIDE);
            refused("p05 which and v", FINE, x -> x.set(which, 9), OUTSIDE);
        }
        int[] firstBeyond = {4, 6, 2};
        for (int which = 0; which < 3; which++) {
            int w = which;
            for (int v : new int[] {-1, firstBeyond[which], WILD[0], WILD[1]}) {
                refused("p05 set " + w + " " + v, FINE, x -> x.set(w, v), OUTSIDE);
            }
        }
    }

    private static void p06Say() {
        Supplier<SeedBank> full = () -> village("s".repeat(60));
        Supplier<SeedBank> fullAndFaulty = () -> village("s".repeat(59) + "A");
        Supplier<SeedBank> fullAndBarred = () -> village("s".repeat(58) + "D1");
        for (int sign : new int[] {32, 127, 0, -1, WILD[0], WILD[1]}) {
            refused("p06 sign " + sign, EMPTY, x -> x.say(sign), OUTSIDE);
            refused("p06 sign behind some", FINE, x -> x.say(sign), OUTSIDE);
            refused("p06 sign behind half an act", FAULTY, x -> x.say(sign), OUTSIDE);
            refused("p06 outside and full", full, x -> x.say(sign), OUTSIDE);
            refused("p06 outside and full of half", fullAndFaulty, x -> x.say(sign), OUTSIDE);
        }
        for (int sign : new int[] {33, '.', '1', 126}) {
            refused("p06 full", full, x -> x.say(sign), FULL);
            refused("p06 full, though more must come", fullAndFaulty, x -> x.say(sign), FULL);
            refused("p06 full of what can not be", fullAndBarred, x -> x.say(sign), FULL);
        }
    }

    /** The refusals of what asks for all that is behind the PAD, but for UNKNOWN and STATE. */
    private static void ofThePad(String what, ToLongFunction<SeedBank> good,
            ToLongFunction<SeedBank> outside) {
        refused(what + " outside", FINE, outside, OUTSIDE);
        refused(what + " outside, no act", IDLE, outside, OUTSIDE);
        refused(what + " outside and no", FAULTY, outside, OUTSIDE);
        refused(what + " outside and state", BARRED, outside, OUTSIDE);
        refused(what + " outside, no and state", FAULTY_AND_BARRED, outside, OUTSIDE);
        refused(what + " no", FAULTY, good, NO);
        refused(what + " no and state", FAULTY_AND_BARRED, good, NO);
    }

    private static void p09Judge() {
        for (int what = 0; what < 3; what++) {
            int w = what;
            for (int v : new int[] {-1, 3, WILD[0], WILD[1]}) {
                ofThePad("p09 judge " + w + " and " + v, x -> x.judge(w), x -> x.judge(v));
            }
        }
        refused("p09 state", BARRED, x -> x.judge(2), STATE);
        refused("p09 the act is told", BARRED, x -> x.judge(0), 2);
        refused("p09 why is told", BARRED, x -> x.judge(1), 4);
        refused("p09 none", FINE, x -> x.judge(0), NONE);
    }

    private static void p10Behind() {
        for (int what = 0; what < 2; what++) {
            int w = what;
            for (int v : new int[] {-1, 2, WILD[0], WILD[1]}) {
                ofThePad("p10 behind " + w + " and " + v, x -> x.behind(0, w), x -> x.behind(0, v));
            }
            refused("p10 state", BARRED, x -> x.behind(0, w), STATE);
            for (int family : new int[] {-1, 6, 3, 5, WILD[0], WILD[1]}) {
                refused("p10 unknown", FINE, x -> x.behind(family, w), UNKNOWN);
                refused("p10 unknown and outside", FINE, x -> x.behind(family, 2), UNKNOWN);
                refused("p10 unknown and no", FAULTY, x -> x.behind(family, w), UNKNOWN);
                refused("p10 unknown and state", BARRED, x -> x.behind(family, w), UNKNOWN);
                refused("p10 unknown, outside and no", FAULTY, x -> x.behind(family, -1), UNKNOWN);
                refused("p10 unknown, outside, state", BARRED, x -> x.behind(family, 2), UNKNOWN);
                refused("p10 all but outside", FAULTY_AND_BARRED,
                        x -> x.behind(family, w), UNKNOWN);
                refused("p10 all four", FAULTY_AND_BARRED, x -> x.behind(family, 2), UNKNOWN);
            }
        }
    }

    private static void p11Lies() {
        for (int v : new int[] {-1, 36, WILD[0], WILD[1]}) {
            ofThePad("p11 lies " + v, x -> x.lies(35), x -> x.lies(v));
        }
        refused("p11 state", BARRED, x -> x.lies(0), STATE);
        refused("p11 state of the last field", BARRED, x -> x.lies(35), STATE);
    }

    private static void p12Total() {
        for (int what = 0; what < 4; what++) {
            int w = what;
            for (int v : new int[] {-1, 4, WILD[0], WILD[1]}) {
                ofThePad("p12 total " + w + " and " + v, x -> x.total(w), x -> x.total(v));
            }
            refused("p12 state", BARRED, x -> x.total(w), STATE);
        }
    }

    private static void p13Ruined() {
        for (int what = 0; what < 2; what++) {
            int w = what;
            for (int v : new int[] {-1, 2, WILD[0], WILD[1]}) {
                ofThePad("p13 ruined " + w + " and " + v, x -> x.ruined(w), x -> x.ruined(v));
            }
            refused("p13 state", BARRED, x -> x.ruined(w), STATE);
            refused("p13 none", FINE, x -> x.ruined(w), NONE);
        }
        refused("p13 state, though one was ruined", () -> village("AcA1"), x -> x.ruined(0), STATE);
    }

    private static void p14Done() {
        refused("p14 no", FAULTY, SeedBank::done, NO);
        refused("p14 state", BARRED, SeedBank::done, STATE);
        refused("p14 no and state", FAULTY_AND_BARRED, SeedBank::done, NO);
        refused("p14 no at the first sign", () -> village("!"), SeedBank::done, NO);
        refused("p14 state at the first act", () -> village("D1"), SeedBank::done, STATE);
        String full = "s".repeat(58);
        refused("p14 no at the last sign", () -> village(full + "sA"), SeedBank::done, NO);
        refused("p14 state at the last act", () -> village(full + "D1"), SeedBank::done, STATE);
    }

    private static void p15Pays() {
        for (int v : new int[] {-1, 6, 3, 5, WILD[0], WILD[1]}) {
            refused("p15 one " + v, FINE, x -> x.pays(v, 0), UNKNOWN);
            refused("p15 other " + v, FINE, x -> x.pays(0, v), UNKNOWN);
            refused("p15 both " + v, FINE, x -> x.pays(v, v), UNKNOWN);
            refused("p15 both of none", EMPTY, x -> x.pays(0, v), UNKNOWN);
        }
        for (int f = 0; f < 6; f++) {
            int both = f;
            refused("p15 both one " + f, RefusalsTest::allSix, x -> x.pays(both, both), UNKNOWN);
        }
        refused("p15 none", FINE, x -> x.pays(0, 2), NONE);
    }

    private static void p16Over() {
        for (int what = 0; what < 2; what++) {
            int w = what;
            for (int v : new int[] {-1, 6, 3, 5, WILD[0], WILD[1]}) {
                refused("p16 one " + v, FINE, x -> x.over(v, 0, w), UNKNOWN);
                refused("p16 other " + v, FINE, x -> x.over(0, v, w), UNKNOWN);
                refused("p16 both " + v, FINE, x -> x.over(v, v, w), UNKNOWN);
                refused("p16 one and outside", FINE, x -> x.over(v, 0, 2), UNKNOWN);
                refused("p16 other and outside", FINE, x -> x.over(0, v, -1), UNKNOWN);
            }
            refused("p16 both one", FINE, x -> x.over(1, 1, w), UNKNOWN);
        }
        refused("p16 both one and outside", FINE, x -> x.over(1, 1, 2), UNKNOWN);
        for (int what : new int[] {-1, 2, WILD[0], WILD[1]}) {
            refused("p16 what " + what, FINE, x -> x.over(0, 1, what), OUTSIDE);
            refused("p16 what, though there is no way", () -> {
                SeedBank x = village("");
                x.family(3, 35, 1, 1);
                return x;
            }, x -> x.over(0, 3, what), OUTSIDE);
        }
    }

    private static void p17Bellows() {
        for (int k : new int[] {0, 7, -1, WILD[0], WILD[1]}) {
            refused("p17 k " + k, FINE, x -> x.bellows(k, 0), OUTSIDE);
            refused("p17 k and what", FINE, x -> x.bellows(k, 2), OUTSIDE);
        }
        for (int what : new int[] {-1, 2, WILD[0], WILD[1]}) {
            refused("p17 what " + what, FINE, x -> x.bellows(1, what), OUTSIDE);
            refused("p17 what of 6 " + what, FINE, x -> x.bellows(6, what), OUTSIDE);
        }
    }

    private static void p18Principal() {
        for (int m : new int[] {-1, 13, WILD[0], WILD[1]}) {
            refused("p18 m " + m, FINE, x -> x.principal(m, 0), OUTSIDE);
            refused("p18 m and what", FINE, x -> x.principal(m, 2), OUTSIDE);
        }
        for (int what : new int[] {-1, 2, WILD[0], WILD[1]}) {
            refused("p18 what " + what, FINE, x -> x.principal(0, what), OUTSIDE);
            refused("p18 what of 12 " + what, FINE, x -> x.principal(12, what), OUTSIDE);
        }
    }

    private static void p19Tax() {
        for (int c : new int[] {-1, 1000, WILD[0], WILD[1]}) {
            refused("p19 c " + c, FINE, x -> x.tax(0, c), OUTSIDE);
            refused("p19 c, though nobody has any", () -> {
                SeedBank x = new SeedBank();
                x.family(0, 0, 0, 1);
                return x;
            }, x -> x.tax(0, c), OUTSIDE);
            for (int family : new int[] {-1, 6, 3, 5, WILD[0], WILD[1]}) {
                refused("p19 unknown " + family, FINE, x -> x.tax(family, 10), UNKNOWN);
                refused("p19 unknown and outside", FINE, x -> x.tax(family, c), UNKNOWN);
            }
        }
        refused("p19 unknown, though nobody is", EMPTY, x -> x.tax(0, 0), UNKNOWN);
    }

    private static void p20Seen() {
        Supplier<SeedBank> full = RefusalsTest::fullOfSights;
        for (int b : new int[] {0, 10, -1, WILD[0], WILD[1]}) {
            refused("p20 b " + b, FINE, x -> x.seen(b, 12), OUTSIDE);
            refused("p20 b and flew", FINE, x -> x.seen(b, 82), OUTSIDE);
            refused("p20 b and full", full, x -> x.seen(b, 12), OUTSIDE);
        }
        for (int flew : new int[] {-1, 82, WILD[0], WILD[1]}) {
            refused("p20 flew " + flew, FINE, x -> x.seen(3, flew), OUTSIDE);
            refused("p20 flew and full", full, x -> x.seen(3, flew), OUTSIDE);
            refused("p20 all three", full, x -> x.seen(0, flew), OUTSIDE);
        }
        refused("p20 full", full, x -> x.seen(3, 12), FULL);
        refused("p20 full for another", full, x -> x.seen(9, 81), FULL);
    }

    private static void p22Fits() {
        for (int i : new int[] {-2, 360, WILD[0], WILD[1]}) {
            refused("p22 none " + i, FINE, x -> x.fits(i), NONE);
            refused("p22 none of all " + i, EMPTY, x -> x.fits(i), NONE);
        }
    }

    private static void p23Tries() {
        Supplier<SeedBank> nothingFits = () -> {
            SeedBank x = village("");
            x.seen(3, 13);
            return x;
        };
        for (int what : new int[] {-1, 2, WILD[0], WILD[1]}) {
            refused("p23 what " + what, FINE, x -> x.tries(what), OUTSIDE);
            refused("p23 what, though nothing fits", nothingFits, x -> x.tries(what), OUTSIDE);
        }
        refused("p23 nothing fits", nothingFits, x -> x.tries(0), NONE);
        refused("p23 nothing fits either", nothingFits, x -> x.tries(1), NONE);
    }

    private static void p24Gusts() {
        long gone = SeedBank.GONE + OUTSIDE;
        int[][] outside = {{-1, 36}, {-2, 36}, {-1, 6}, {-1, 2}};
        for (int i = 0; i < 4; i++) {
            for (int v : new int[] {outside[i][0], outside[i][1], WILD[0], WILD[1]}) {
                refused("p24 argument " + i + " " + v, FINE, gusts(i, v, i, v), gone);
                for (int j = i + 1; j < 4; j++) {
                    int w = outside[j][1];
                    refused("p24 arguments " + i + " and " + j, FINE, gusts(i, v, j, w), gone);
                }
            }
        }
        refused("p24 all four", FINE, x -> x.gusts(36, 36, 6, 2), gone);
    }

    /** gusts() with two of its arguments told, by their places, and the others allowed. */
    private static ToLongFunction<SeedBank> gusts(int i, int v, int j, int w) {
        int[] all = {35, -1, 5, 0};
        all[j] = w;
        all[i] = v;
        return x -> x.gusts(all[0], all[1], all[2], all[3]);
    }

    private static void p25Lovers() {
        for (int n : new int[] {-1, 100, WILD[0], WILD[1]}) {
            refused("p25 n " + n, FINE, x -> x.lovers(n, 1, 0), OUTSIDE);
            refused("p25 n and k", FINE, x -> x.lovers(n, 0, 0), OUTSIDE);
            refused("p25 n and what", FINE, x -> x.lovers(n, 9, 2), OUTSIDE);
        }
        for (int k : new int[] {0, 10, -1, WILD[0], WILD[1]}) {
            refused("p25 k " + k, FINE, x -> x.lovers(99, k, 1), OUTSIDE);
            refused("p25 k and what", FINE, x -> x.lovers(99, k, -1), OUTSIDE);
        }
        for (int what : new int[] {-1, 2, WILD[0], WILD[1]}) {
            refused("p25 what " + what, FINE, x -> x.lovers(0, 1, what), OUTSIDE);
        }
        refused("p25 all three", FINE, x -> x.lovers(100, 10, 2), OUTSIDE);
        refused("p25 none", FINE, x -> x.lovers(0, 1, 1), NONE);
    }

    private static void p26Year() {
        for (int seed : new int[] {-1, 10000, WILD[0], WILD[1]}) {
            refused("p26 seed " + seed, FINE, x -> x.year(seed, 1, 0), OUTSIDE);
            refused("p26 seed and m", FINE, x -> x.year(seed, 0, 0), OUTSIDE);
            refused("p26 seed and what", FINE, x -> x.year(seed, 99, 3), OUTSIDE);
        }
        for (int m : new int[] {0, 100, -1, WILD[0], WILD[1]}) {
            refused("p26 m " + m, FINE, x -> x.year(9999, m, 2), OUTSIDE);
            refused("p26 m and what", FINE, x -> x.year(9999, m, -1), OUTSIDE);
        }
        for (int what : new int[] {-1, 3, WILD[0], WILD[1]}) {
            refused("p26 what " + what, FINE, x -> x.year(0, 1, what), OUTSIDE);
        }
        refused("p26 all three", FINE, x -> x.year(-1, 100, 3), OUTSIDE);
    }

    private static void p27Image() {
        for (int k : new int[] {-1, 2, 32, WILD[0], WILD[1]}) {
            refused("p27 image " + k, FINE, x -> x.image(k), OUTSIDE);
            refused("p27 image of the empty " + k, EMPTY, x -> x.image(k), OUTSIDE);
        }
    }

    private static void p28Restore() {
        for (int k : new int[] {-1, 2, 32, WILD[0], WILD[1]}) {
            refused("p28 restore " + k, FINE, x -> x.restore(k), OUTSIDE);
            refused("p28 restore, none kept " + k, EMPTY, x -> x.restore(k), OUTSIDE);
        }
        refused("p28 the other was not kept", FINE, x -> x.restore(1), STATE);
        refused("p28 0 was not kept", EMPTY, x -> x.restore(0), STATE);
        refused("p28 1 was not kept", EMPTY, x -> x.restore(1), STATE);
    }

    private static void p29Told() {
        int[] outside = {-1, 8, 9, 14, 19, 40, 43, 50, 60, 64, 69, 70, 99, 136, WILD[0], WILD[1]};
        for (int what : outside) {
            refused("p29 told " + what, FINE, x -> x.told(what), OUTSIDE);
        }
        refused("p29 told of none", EMPTY, x -> x.told(10), OUTSIDE);
    }
}
