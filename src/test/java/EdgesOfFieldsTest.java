/** The boundary cases of promises 1 to 8, a method for each sentence that names one. */
public final class EdgesOfFieldsTest {
    private static final int LEAST = Integer.MIN_VALUE;
    private static final int GREATEST = Integer.MAX_VALUE;

    public static void main(String[] args) {
        p01NoFamilies();
        p01NothingLiesAnywhere();
        p01WindNorthForceOneNoRain();
        p01NothingIsLostNoHourNoSightNoImage();
        p02FamiliesFrom0To5();
        p02FieldsFrom0To35();
        p02SeedsFrom0To60();
        p02LungsFrom1To9();
        p02HowManyAre();
        p02NoTwoOnOneField();
        p02AnewOnItsOwnField();
        p02SeedsOfBeforeAreNoMore();
        p02WhatLiesThereStays();
        p03FromSixToNone();
        p03ItsSeedsLieThere999AtMost();
        p03LeftTwice();
        p04FieldsFrom0To35();
        p04SeedsFrom0To999();
        p04WhatDidLieIsNotLost();
        p05WindFrom0To3();
        p05ForceFrom0To5();
        p05Rain0And1();
        p05WhichFrom0To2();
        p06SignsFrom33To126();
        p06SixtySigns();
        p06ASignChangesTheFault();
        p07EmptyAndFull();
        p07OnlySignsGo();
        p08EmptyPad();
        p08EachSignAtEachPlace();
        p08TheFirstSignStays();
        p08MoreMustCome();
        p08AtTheEndOfTheFullPad();
        Checks.end();
    }

    private static SeedBank six() {
        SeedBank x = new SeedBank();
        for (int f = 0; f < 6; f++) {
            x.family(f, 7 * f, 10 + f, 1 + f);
        }
        return x;
    }

    private static void p01NoFamilies() {
        SeedBank x = new SeedBank();
        Checks.due("p01 families", x.told(1), 0);
        for (int f = 0; f < 6; f++) {
            Checks.due("p01 leave " + f, x.leave(f), SeedBank.UNKNOWN);
            Checks.due("p01 behind " + f, x.behind(f, 0), SeedBank.UNKNOWN);
            Checks.due("p01 tax " + f, x.tax(f, 0), SeedBank.UNKNOWN);
            for (int what = 0; what < 4; what++) {
                int row = 10 * (1 + f) + what;
                Checks.due("p01 told " + row, x.told(row), SeedBank.OUTSIDE);
            }
        }
        Checks.due("p01 seeds of all", x.total(0), 0);
    }

    private static void p01NothingLiesAnywhere() {
        SeedBank x = new SeedBank();
        for (int field = 0; field < 36; field++) {
            Checks.due("p01 told lies " + field, x.told(100 + field), 0);
            Checks.due("p01 lies " + field, x.lies(field), 0);
            Checks.due("p01 lay " + field, x.lay(field, 0), 0);
        }
        Checks.due("p01 lies in all", x.total(1), 0);
        Checks.due("p01 most of all", x.bellows(6, 0), 0);
    }

    private static void p01WindNorthForceOneNoRain() {
        SeedBank x = new SeedBank();
        Checks.due("p01 wind", x.told(2), 0);
        Checks.due("p01 force", x.told(3), 1);
        Checks.due("p01 rain", x.told(4), 0);
        Checks.due("p01 wind was", x.set(0, 0), 0);
        Checks.due("p01 force was", x.set(1, 1), 1);
        Checks.due("p01 rain was", x.set(2, 0), 0);
        SeedBank y = new SeedBank();
        y.family(0, 14, 1, 1);
        Checks.say(y, "A1");
        Checks.due("p01 a puff comes one to the north", y.lies(20), 1);
    }

    private static void p01NothingIsLostNoHourNoSightNoImage() {
        SeedBank x = new SeedBank();
        Checks.due("p01 signs", x.told(0), 0);
        Checks.due("p01 no fault", x.fault(), SeedBank.NONE);
        Checks.due("p01 hours", x.told(5), 0);
        Checks.due("p01 sights", x.told(6), 0);
        Checks.due("p01 lost", x.told(7), 0);
        Checks.due("p01 lost behind", x.total(2), 0);
        Checks.due("p01 hours behind", x.total(3), 0);
        Checks.due("p01 forget", x.forget(), 0);
        Checks.due("p01 wipe", x.wipe(), 0);
        Checks.due("p01 image 0", x.restore(0), SeedBank.STATE);
        Checks.due("p01 image 1", x.restore(1), SeedBank.STATE);
    }

    private static void p02FamiliesFrom0To5() {
        SeedBank x = new SeedBank();
        Checks.due("p02 family 0", x.family(0, 1, 1, 1), 1);
        Checks.due("p02 family 5", x.family(5, 2, 1, 1), 2);
        Checks.due("p02 bits", x.told(1), 1 + 32);
        Checks.due("p02 family -1", x.family(-1, 3, 1, 1), SeedBank.UNKNOWN);
        Checks.due("p02 family 6", x.family(6, 3, 1, 1), SeedBank.UNKNOWN);
        Checks.due("p02 family 32", x.family(32, 3, 1, 1), SeedBank.UNKNOWN);
        Checks.due("p02 least of all", x.family(LEAST, 3, 1, 1), SeedBank.UNKNOWN);
        Checks.due("p02 greatest of all", x.family(GREATEST, 3, 1, 1), SeedBank.UNKNOWN);
    }

    private static void p02FieldsFrom0To35() {
        for (int field = 0; field < 36; field++) {
            SeedBank x = new SeedBank();
            Checks.due("p02 field " + field, x.family(3, field, 1, 1), 1);
            Checks.due("p02 told field " + field, x.told(40), field);
        }
        SeedBank x = new SeedBank();
        Checks.due("p02 field -1", x.family(3, -1, 1, 1), SeedBank.OUTSIDE);
        Checks.due("p02 field 36", x.family(3, 36, 1, 1), SeedBank.OUTSIDE);
        Checks.due("p02 least field", x.family(3, LEAST, 1, 1), SeedBank.OUTSIDE);
        Checks.due("p02 greatest field", x.family(3, GREATEST, 1, 1), SeedBank.OUTSIDE);
        Checks.due("p02 none is there", x.told(1), 0);
    }

    private static void p02SeedsFrom0To60() {
        SeedBank x = new SeedBank();
        Checks.due("p02 seeds 0", x.family(0, 0, 0, 1), 1);
        Checks.due("p02 told seeds 0", x.told(11), 0);
        Checks.due("p02 seeds 60", x.family(0, 0, 60, 1), 1);
        Checks.due("p02 told seeds 60", x.told(11), 60);
        Checks.due("p02 seeds -1", x.family(0, 0, -1, 1), SeedBank.OUTSIDE);
        Checks.due("p02 seeds 61", x.family(0, 0, 61, 1), SeedBank.OUTSIDE);
        Checks.due("p02 least seeds", x.family(0, 0, LEAST, 1), SeedBank.OUTSIDE);
        Checks.due("p02 greatest seeds", x.family(0, 0, GREATEST, 1), SeedBank.OUTSIDE);
        Checks.due("p02 seeds stay", x.told(11), 60);
    }

    private static void p02LungsFrom1To9() {
        SeedBank x = new SeedBank();
        Checks.due("p02 lungs 1", x.family(0, 0, 60, 1), 1);
        Checks.due("p02 told lungs 1", x.told(12), 1);
        Checks.due("p02 lungs 9", x.family(0, 0, 60, 9), 1);
        Checks.due("p02 told lungs 9", x.told(12), 9);
        Checks.due("p02 lungs 0", x.family(0, 0, 60, 0), SeedBank.OUTSIDE);
        Checks.due("p02 lungs 10", x.family(0, 0, 60, 10), SeedBank.OUTSIDE);
        Checks.due("p02 least lungs", x.family(0, 0, 60, LEAST), SeedBank.OUTSIDE);
        Checks.due("p02 greatest lungs", x.family(0, 0, 60, GREATEST), SeedBank.OUTSIDE);
        Checks.due("p02 lungs stay", x.told(12), 9);
    }

    private static void p02HowManyAre() {
        SeedBank x = new SeedBank();
        int bits = 0;
        for (int i = 0; i < 6; i++) {
            int f = 5 - i;
            bits |= 1 << f;
            Checks.due("p02 how many with " + f, x.family(f, f, 1, 1), i + 1);
            Checks.due("p02 bits with " + f, x.told(1), bits);
        }
        for (int f = 0; f < 6; f++) {
            Checks.due("p02 still six with " + f + " anew", x.family(f, 30 + f, 2, 2), 6);
        }
        Checks.due("p02 all six", x.told(1), 63);
    }

    private static void p02NoTwoOnOneField() {
        SeedBank x = six();
        for (int f = 0; f < 6; f++) {
            for (int g = 0; g < 6; g++) {
                long want = f == g ? 6 : SeedBank.STATE;
                Checks.due("p02 " + f + " where " + g + " is", x.family(f, 7 * g, 10 + f, 1), want);
            }
        }
        x.leave(0);
        Checks.due("p02 its field is free then", x.family(1, 0, 1, 1), 5);
        Checks.due("p02 not for it any more", x.family(0, 0, 1, 1), SeedBank.STATE);
        Checks.due("p02 but the other's of before", x.family(0, 7, 1, 1), 6);
    }

    private static void p02AnewOnItsOwnField() {
        SeedBank x = new SeedBank();
        x.family(2, 9, 9, 9);
        Checks.say(x, "C9");
        x.done();
        Checks.due("p02 blown ahead", x.told(33), 9);
        Checks.due("p02 anew", x.family(2, 9, 9, 9), 1);
        Checks.due("p02 blown 0", x.told(33), 0);
        Checks.say(x, "C9");
        Checks.due("p02 it can blow again", x.judge(0), SeedBank.NONE);
        Checks.due("p02 hours are as they were", x.told(5), 0);
    }

    private static void p02SeedsOfBeforeAreNoMore() {
        SeedBank x = new SeedBank();
        x.family(2, 9, 60, 9);
        x.family(2, 10, 0, 1);
        Checks.due("p02 none of its seeds", x.told(31), 0);
        Checks.due("p02 they lie nowhere", x.total(1), 0);
        Checks.due("p02 nor are they lost", x.told(7), 0);
        Checks.due("p02 seeds of all", x.total(0), 0);
        Checks.due("p02 still one", x.told(1), 4);
    }

    private static void p02WhatLiesThereStays() {
        SeedBank x = new SeedBank();
        x.lay(9, 999);
        x.family(2, 9, 60, 9);
        Checks.due("p02 what lies there", x.told(109), 999);
        Checks.due("p02 and its seeds", x.told(31), 60);
        Checks.due("p02 none is lost", x.told(7), 0);
    }

    private static void p03FromSixToNone() {
        SeedBank x = six();
        int bits = 63;
        for (int f = 0; f < 6; f++) {
            bits &= ~(1 << f);
            Checks.due("p03 leave " + f, x.leave(f), 5 - f);
            Checks.due("p03 bits without " + f, x.told(1), bits);
            Checks.due("p03 its seeds lie " + f, x.told(100 + 7 * f), 10 + f);
        }
        Checks.due("p03 seeds of all", x.total(0), 0);
        Checks.due("p03 lies in all", x.total(1), 75);
    }

    private static void p03ItsSeedsLieThere999AtMost() {
        leaves(0, 0, 0, 0);
        leaves(0, 999, 999, 0);
        leaves(60, 0, 60, 0);
        leaves(60, 938, 998, 0);
        leaves(60, 939, 999, 0);
        leaves(60, 940, 999, 1);
        leaves(60, 999, 999, 60);
        leaves(1, 998, 999, 0);
        leaves(1, 999, 999, 1);
    }

    private static void leaves(int seeds, int lay, int lies, int lost) {
        SeedBank x = new SeedBank();
        x.family(1, 35, seeds, 1);
        x.lay(35, lay);
        String call = "p03 " + seeds + " onto " + lay;
        Checks.due(call, x.leave(1), 0);
        Checks.due(call + " lies", x.told(135), lies);
        Checks.due(call + " lost", x.told(7), lost);
    }

    private static void p03LeftTwice() {
        SeedBank x = six();
        Checks.due("p03 once", x.leave(5), 5);
        Checks.due("p03 twice", x.leave(5), SeedBank.UNKNOWN);
        Checks.due("p03 its seeds lie once", x.told(135), 15);
        Checks.due("p03 -1", x.leave(-1), SeedBank.UNKNOWN);
        Checks.due("p03 6", x.leave(6), SeedBank.UNKNOWN);
        Checks.due("p03 32", x.leave(32), SeedBank.UNKNOWN);
        Checks.due("p03 least", x.leave(LEAST), SeedBank.UNKNOWN);
        Checks.due("p03 greatest", x.leave(GREATEST), SeedBank.UNKNOWN);
        Checks.due("p03 others stay", x.told(1), 31);
        Checks.due("p03 again", x.family(5, 35, 1, 1), 6);
        Checks.due("p03 leaves again", x.leave(5), 5);
        Checks.due("p03 more lies then", x.told(135), 16);
    }

    private static void p04FieldsFrom0To35() {
        SeedBank x = new SeedBank();
        for (int field = 0; field < 36; field++) {
            Checks.due("p04 field " + field, x.lay(field, 100 + field), 0);
        }
        for (int field = 0; field < 36; field++) {
            Checks.due("p04 again " + field, x.lay(field, 0), 100 + field);
        }
        Checks.due("p04 field -1", x.lay(-1, 1), SeedBank.OUTSIDE);
        Checks.due("p04 field 36", x.lay(36, 1), SeedBank.OUTSIDE);
        Checks.due("p04 least field", x.lay(LEAST, 1), SeedBank.OUTSIDE);
        Checks.due("p04 greatest field", x.lay(GREATEST, 1), SeedBank.OUTSIDE);
        Checks.due("p04 nothing lies", x.total(1), 0);
    }

    private static void p04SeedsFrom0To999() {
        SeedBank x = new SeedBank();
        Checks.due("p04 999", x.lay(17, 999), 0);
        Checks.due("p04 -1", x.lay(17, -1), SeedBank.OUTSIDE);
        Checks.due("p04 1000", x.lay(17, 1000), SeedBank.OUTSIDE);
        Checks.due("p04 least", x.lay(17, LEAST), SeedBank.OUTSIDE);
        Checks.due("p04 greatest", x.lay(17, GREATEST), SeedBank.OUTSIDE);
        Checks.due("p04 0", x.lay(17, 0), 999);
        Checks.due("p04 it was 0", x.lay(17, 1), 0);
        for (int field = 0; field < 36; field++) {
            x.lay(field, 999);
        }
        Checks.due("p04 the most that can lie", x.total(1), 36 * 999);
    }

    private static void p04WhatDidLieIsNotLost() {
        SeedBank x = new SeedBank();
        x.family(0, 17, 60, 1);
        x.lay(17, 999);
        x.lay(17, 0);
        Checks.due("p04 none is lost", x.told(7), 0);
        Checks.due("p04 a family there keeps its seeds", x.told(11), 60);
    }

    private static void p05WindFrom0To3() {
        SeedBank x = new SeedBank();
        int was = 0;
        int[] winds = {3, 0, 1, 2, 2};
        for (int wind : winds) {
            Checks.due("p05 wind " + wind, x.set(0, wind), was);
            Checks.due("p05 told wind " + wind, x.told(2), wind);
            was = wind;
        }
        Checks.due("p05 wind -1", x.set(0, -1), SeedBank.OUTSIDE);
        Checks.due("p05 wind 4", x.set(0, 4), SeedBank.OUTSIDE);
        Checks.due("p05 least wind", x.set(0, LEAST), SeedBank.OUTSIDE);
        Checks.due("p05 greatest wind", x.set(0, GREATEST), SeedBank.OUTSIDE);
        Checks.due("p05 wind stays", x.told(2), 2);
        Checks.due("p05 force is not touched", x.told(3), 1);
    }

    private static void p05ForceFrom0To5() {
        SeedBank x = new SeedBank();
        int was = 1;
        int[] forces = {0, 5, 4, 3, 2, 1, 1};
        for (int force : forces) {
            Checks.due("p05 force " + force, x.set(1, force), was);
            Checks.due("p05 told force " + force, x.told(3), force);
            was = force;
        }
        Checks.due("p05 force -1", x.set(1, -1), SeedBank.OUTSIDE);
        Checks.due("p05 force 6", x.set(1, 6), SeedBank.OUTSIDE);
        Checks.due("p05 least force", x.set(1, LEAST), SeedBank.OUTSIDE);
        Checks.due("p05 greatest force", x.set(1, GREATEST), SeedBank.OUTSIDE);
        Checks.due("p05 force stays", x.told(3), 1);
        Checks.due("p05 wind is not touched", x.told(2), 0);
    }

    private static void p05Rain0And1() {
        SeedBank x = new SeedBank();
        Checks.due("p05 no rain", x.set(2, 0), 0);
        Checks.due("p05 rain", x.set(2, 1), 0);
        Checks.due("p05 rain again", x.set(2, 1), 1);
        Checks.due("p05 rain -1", x.set(2, -1), SeedBank.OUTSIDE);
        Checks.due("p05 rain 2", x.set(2, 2), SeedBank.OUTSIDE);
        Checks.due("p05 least rain", x.set(2, LEAST), SeedBank.OUTSIDE);
        Checks.due("p05 greatest rain", x.set(2, GREATEST), SeedBank.OUTSIDE);
        Checks.due("p05 rain stays", x.told(4), 1);
        Checks.due("p05 no rain any more", x.set(2, 0), 1);
        Checks.due("p05 told no rain", x.told(4), 0);
    }

    private static void p05WhichFrom0To2() {
        SeedBank x = new SeedBank();
        Checks.due("p05 which -1", x.set(-1, 0), SeedBank.OUTSIDE);
        Checks.due("p05 which 3", x.set(3, 0), SeedBank.OUTSIDE);
        Checks.due("p05 least which", x.set(LEAST, 0), SeedBank.OUTSIDE);
        Checks.due("p05 greatest which", x.set(GREATEST, 0), SeedBank.OUTSIDE);
        Checks.due("p05 wind stays", x.told(2), 0);
        Checks.due("p05 force stays", x.told(3), 1);
        Checks.due("p05 rain stays", x.told(4), 0);
    }

    private static void p06SignsFrom33To126() {
        for (int sign = 33; sign <= 126; sign++) {
            SeedBank x = new SeedBank();
            Checks.due("p06 sign " + sign, x.say(sign), 1);
        }
        SeedBank x = new SeedBank();
        int[] outside = {32, 127, 0, -1, 9, 10, 128, 255, 65 + 256, 65 + 65536, LEAST, GREATEST};
        for (int sign : outside) {
            Checks.due("p06 sign " + sign, x.say(sign), SeedBank.OUTSIDE);
        }
        Checks.due("p06 none is said", x.told(0), 0);
    }

    private static void p06SixtySigns() {
        SeedBank x = new SeedBank();
        for (int times = 0; times < 2; times++) {
            for (int i = 1; i <= 60; i++) {
                Checks.due("p06 sign number " + i, x.say('.'), i);
            }
            Checks.due("p06 the first beyond", x.say('.'), SeedBank.FULL);
            Checks.due("p06 still sixty", x.told(0), 60);
            Checks.due("p06 all go", x.wipe(), 60);
        }
        Checks.say(x, "s".repeat(60));
        Checks.due("p06 sixty acts", x.done(), 60);
        Checks.due("p06 room again", x.say('s'), 1);
    }

    private static void p06ASignChangesTheFault() {
        SeedBank x = new SeedBank();
        Checks.due("p06 no fault", x.fault(), SeedBank.NONE);
        Checks.due("p06 a letter", x.say('A'), 1);
        Checks.due("p06 more must come", x.fault(), 1);
        Checks.due("p06 refused", x.say(32), SeedBank.OUTSIDE);
        Checks.due("p06 the refused sign changes nothing", x.fault(), 1);
        Checks.due("p06 a digit", x.say('1'), 2);
        Checks.due("p06 an act", x.fault(), SeedBank.NONE);
        Checks.due("p06 a wrong sign is taken too", x.say('1'), 3);
        Checks.due("p06 and is the fault", x.fault(), 2);
    }

    private static void p07EmptyAndFull() {
        SeedBank x = new SeedBank();
        Checks.due("p07 empty", x.wipe(), 0);
        Checks.say(x, "!");
        Checks.due("p07 one", x.wipe(), 1);
        Checks.due("p07 empty then", x.wipe(), 0);
        Checks.say(x, "w".repeat(60));
        Checks.due("p07 full", x.wipe(), 60);
        Checks.due("p07 no signs", x.told(0), 0);
        Checks.due("p07 no fault", x.fault(), SeedBank.NONE);
        Checks.due("p07 no acts", x.done(), 0);
    }

    private static void p07OnlySignsGo() {
        SeedBank x = six();
        x.lay(5, 55);
        x.set(0, 3);
        x.set(1, 5);
        x.set(2, 1);
        x.seen(3, 12);
        long[] before = Probe.allButSigns(x);
        Checks.say(x, "w00r.s");
        x.wipe();
        long[] behind = Probe.allButSigns(x);
        for (int i = 0; i < before.length; i++) {
            Checks.due("p07 told " + i, behind[i], before[i]);
        }
    }

    private static void p08EmptyPad() {
        SeedBank x = new SeedBank();
        Checks.due("p08 empty", x.fault(), SeedBank.NONE);
        Checks.due("p08 no acts", x.judge(0), SeedBank.NONE);
        Checks.say(x, "A");
        x.wipe();
        Checks.due("p08 empty again", x.fault(), SeedBank.NONE);
        Checks.say(x, "r");
        x.done();
        Checks.due("p08 empty when done", x.fault(), SeedBank.NONE);
    }

    /** Each sign ahead of an ACT, behind a letter, behind w and behind w and a digit. */
    private static void p08EachSignAtEachPlace() {
        for (int sign = 33; sign <= 126; sign++) {
            boolean letter = sign >= 'A' && sign <= 'F';
            boolean ends = "rs.".indexOf(sign) >= 0;
            long first = ends ? SeedBank.NONE : letter || sign == 'w' ? 1 : 0;
            faultOf("", sign, first);
            faultOf("A1w35r.", sign, first > 0 ? 8 : first == 0 ? 7 : first);
            for (char f = 'A'; f <= 'F'; f++) {
                faultOf("" + f, sign, "123456789cm".indexOf(sign) >= 0 ? SeedBank.NONE : 1);
            }
            faultOf("w", sign, "0123".indexOf(sign) >= 0 ? 2 : 1);
            for (char wind = '0'; wind <= '3'; wind++) {
                faultOf("w" + wind, sign, "012345".indexOf(sign) >= 0 ? SeedBank.NONE : 2);
            }
        }
    }

    private static void faultOf(String text, int sign, long want) {
        SeedBank x = new SeedBank();
        Checks.say(x, text);
        x.say(sign);
        Checks.due("p08 fault of " + text + (char) sign, x.fault(), want);
    }

    private static void p08TheFirstSignStays() {
        SeedBank x = new SeedBank();
        Checks.say(x, "rA0");
        for (int i = 3; i < 60; i++) {
            Checks.due("p08 with " + i + " signs", x.fault(), 2);
            x.say(i % 2 == 0 ? 'A' : '1');
        }
        Checks.due("p08 full", x.fault(), 2);
        x.say('r');
        Checks.due("p08 beyond", x.fault(), 2);
    }

    private static void p08MoreMustCome() {
        String[] begun = {"A", "F", "w", "w0", "w3"};
        for (String text : begun) {
            for (int acts = 0; acts < 20; acts++) {
                SeedBank x = new SeedBank();
                Checks.say(x, ".".repeat(acts) + text);
                Checks.due("p08 " + acts + " and " + text, x.fault(), acts + text.length());
            }
        }
    }

    private static void p08AtTheEndOfTheFullPad() {
        String[] ends = {"A", "w", "w3", "A1", "w35", ".", "!", "A0", "w4", "w36"};
        long[] wants = {60, 60, 60, SeedBank.NONE, SeedBank.NONE, SeedBank.NONE, 59, 59, 59, 59};
        for (int i = 0; i < ends.length; i++) {
            SeedBank x = new SeedBank();
            Checks.say(x, "s".repeat(60 - ends[i].length()) + ends[i]);
            Checks.due("p08 full", x.say('1'), SeedBank.FULL);
            Checks.due("p08 fault at the end " + ends[i], x.fault(), wants[i]);
        }
    }
}
