/** The boundary cases of promises 27 to 29, a method for each sentence that names one. */
public final class EdgesOfImagesTest {
    private static final int LEAST = Integer.MIN_VALUE;
    private static final int GREATEST = Integer.MAX_VALUE;

    public static void main(String[] args) {
        p27ImagesFrom0To1();
        p27TheNewObject();
        p27AllAtItsLimits();
        p27NotThePad();
        p27KeptAnew();
        p28NotKept();
        p28RestoredOverAndOver();
        p28EachImageForItself();
        p28WhatWasKeptStays();
        p29EachNumber();
        p29NoFamilyAndAllSix();
        p29AllAtTheirLimits();
        p29AsItIsNow();
        Checks.end();
    }

    private static void alike(String what, long[] got, long[] want) {
        for (int i = 0; i < want.length; i++) {
            Checks.due(what + " told " + i, got[i], want[i]);
        }
    }

    /** Six families with all they can have, 999 in each field, hour 99, lungs spent, eight sights. */
    private static SeedBank full() {
        SeedBank x = new SeedBank();
        Checks.say(x, ".".repeat(60));
        x.done();
        Checks.say(x, ".".repeat(39));
        x.done();
        for (int field = 0; field < 36; field++) {
            x.lay(field, 999);
        }
        for (int f = 0; f < 6; f++) {
            x.family(f, 6 * f + 5, 60, 9);
        }
        x.set(0, 3);
        x.set(1, 0);
        Checks.say(x, "A9B9C9D9E9F9r");
        x.done();
        x.set(1, 5);
        for (int i = 0; i < 8; i++) {
            x.seen(9, 40);
        }
        return x;
    }

    private static void p27ImagesFrom0To1() {
        SeedBank x = new SeedBank();
        int[] outside = {-1, 2, 31, 32, 33, LEAST, GREATEST};
        for (int k : outside) {
            Checks.due("p27 image " + k, x.image(k), SeedBank.OUTSIDE);
            Checks.due("p28 restore " + k, x.restore(k), SeedBank.OUTSIDE);
        }
        Checks.due("p28 nothing was kept as 0", x.restore(0), SeedBank.STATE);
        Checks.due("p28 nothing was kept as 1", x.restore(1), SeedBank.STATE);
        Checks.due("p27 image 0", x.image(0), 1);
        Checks.due("p27 image 1", x.image(1), 1);
        Checks.due("p28 restore 0", x.restore(0), 1);
        Checks.due("p28 restore 1", x.restore(1), 1);
        for (int k : outside) {
            Checks.due("p28 restore " + k + " still", x.restore(k), SeedBank.OUTSIDE);
        }
    }

    private static void p27TheNewObject() {
        SeedBank x = new SeedBank();
        long[] before = Probe.allButSigns(x);
        x.image(1);
        x.family(0, 0, 60, 9);
        x.lay(35, 999);
        x.set(0, 3);
        x.set(1, 5);
        x.set(2, 1);
        x.seen(1, 1);
        Checks.say(x, ".s");
        x.done();
        Checks.due("p28 back", x.restore(1), 1);
        alike("p28 the new object", Probe.allButSigns(x), before);
        Checks.due("p28 no sight", x.fits(-1), 360);
        Checks.due("p28 no family", x.behind(0, 0), SeedBank.UNKNOWN);
    }

    private static void p27AllAtItsLimits() {
        SeedBank x = full();
        long[] before = Probe.allButSigns(x);
        x.image(0);
        for (int f = 0; f < 6; f++) {
            x.leave(f);
        }
        x.set(0, 0);
        x.set(1, 1);
        x.set(2, 0);
        x.forget();
        Checks.say(x, "ss");
        x.done();
        Checks.due("p28 back", x.restore(0), 1);
        alike("p28 all at its limits", Probe.allButSigns(x), before);
        Checks.due("p28 sights full", x.seen(1, 1), SeedBank.FULL);
        Checks.due("p28 what they were", x.fits(0), 540);
        Checks.say(x, "r.");
        Checks.due("p28 hour 99", x.judge(1), 5);
        x.wipe();
        Checks.say(x, "rF1");
        Checks.due("p28 no breath", x.judge(1), 4);
    }

    private static void p27NotThePad() {
        SeedBank x = new SeedBank();
        x.image(0);
        Checks.say(x, "s".repeat(59) + "A");
        x.image(1);
        Checks.due("p28 an image of the empty pad", x.restore(0), 1);
        Checks.due("p28 the full pad stays", x.told(0), 60);
        Checks.due("p28 its fault stays", x.fault(), 60);
        Checks.due("p28 it is full", x.say('1'), SeedBank.FULL);
        x.wipe();
        Checks.due("p28 an image of the full pad", x.restore(1), 1);
        Checks.due("p28 the empty pad stays", x.told(0), 0);
        Checks.due("p28 it has no fault", x.fault(), SeedBank.NONE);
    }

    private static void p27KeptAnew() {
        SeedBank x = new SeedBank();
        for (int i = 1; i <= 5; i++) {
            x.lay(0, i);
            Checks.due("p27 kept " + i, x.image(0), 1);
        }
        x.lay(0, 9);
        x.restore(0);
        Checks.due("p28 the last that was kept", x.told(100), 5);
    }

    private static void p28NotKept() {
        for (int k = 0; k < 2; k++) {
            SeedBank x = full();
            x.image(1 - k);
            long[] before = Probe.allButSigns(x);
            Checks.due("p28 not kept " + k, x.restore(k), SeedBank.STATE);
            alike("p28 nothing is changed", Probe.allButSigns(x), before);
        }
    }

    private static void p28RestoredOverAndOver() {
        SeedBank x = new SeedBank();
        x.lay(7, 77);
        x.image(0);
        for (int i = 0; i < 5; i++) {
            x.lay(7, i);
            Checks.due("p28 time " + i, x.restore(0), 1);
            Checks.due("p28 as it was, time " + i, x.told(107), 77);
        }
    }

    private static void p28EachImageForItself() {
        SeedBank x = new SeedBank();
        x.family(0, 0, 1, 1);
        x.image(0);
        x.family(0, 35, 60, 9);
        x.family(5, 0, 60, 9);
        x.image(1);
        x.leave(0);
        x.leave(5);
        Checks.due("p28 the first", x.restore(0), 1);
        Checks.due("p28 one of it", x.told(1), 1);
        Checks.due("p28 where it was", x.told(10), 0);
        Checks.due("p28 the second", x.restore(1), 1);
        Checks.due("p28 two of it", x.told(1), 33);
        Checks.due("p28 where it was then", x.told(10), 35);
        Checks.due("p28 the first again", x.restore(0), 1);
        Checks.due("p28 its lungs", x.told(12), 1);
        Checks.due("p27 the first as the second", x.image(1), 1);
        x.leave(0);
        Checks.due("p28 from the second", x.restore(1), 1);
        Checks.due("p28 the first's family", x.told(11), 1);
    }

    /** What is done to a bank that was restored does not reach into its IMAGE. */
    private static void p28WhatWasKeptStays() {
        SeedBank x = new SeedBank();
        x.family(3, 14, 60, 9);
        x.seen(3, 12);
        x.image(0);
        long[] before = Probe.allButSigns(x);
        for (int i = 0; i < 2; i++) {
            x.restore(0);
            Checks.say(x, "D9Dcw35.");
            x.done();
            x.lay(0, 999);
            x.leave(3);
            x.forget();
            x.seen(9, 81);
        }
        x.restore(0);
        alike("p28 kept", Probe.allButSigns(x), before);
        Checks.due("p28 its sight", x.fits(-1), 34);
    }

    private static void p29EachNumber() {
        SeedBank none = new SeedBank();
        SeedBank all = full();
        for (int what = -3; what <= 140; what++) {
            boolean plain = what >= 0 && what <= 7;
            boolean field = what >= 100 && what <= 135;
            boolean family = what >= 10 && what <= 69 && what % 10 <= 3;
            if (!plain && !field) {
                Checks.due("p29 of none " + what, none.told(what), SeedBank.OUTSIDE);
            }
            Checks.holds("p29 of all " + what,
                    all.told(what) >= 0 == (plain || field || family));
            if (!plain && !field && !family) {
                Checks.due("p29 " + what, all.told(what), SeedBank.OUTSIDE);
            }
        }
        int[] outside = {LEAST, GREATEST, -100, -10, 1000, 70, 99, 136, 300, 10 + 65536};
        for (int what : outside) {
            Checks.due("p29 " + what, all.told(what), SeedBank.OUTSIDE);
        }
    }

    private static void p29NoFamilyAndAllSix() {
        SeedBank x = new SeedBank();
        for (int f = 5; f >= 0; f--) {
            for (int what = 0; what < 4; what++) {
                Checks.due("p29 is not yet " + f, x.told(10 + 10 * f + what), SeedBank.OUTSIDE);
            }
            x.family(f, 35 - f, 10 * f, 1 + f);
            Checks.due("p29 field of " + f, x.told(10 + 10 * f), 35 - f);
            Checks.due("p29 seeds of " + f, x.told(11 + 10 * f), 10 * f);
            Checks.due("p29 lungs of " + f, x.told(12 + 10 * f), 1 + f);
            Checks.due("p29 blown of " + f, x.told(13 + 10 * f), 0);
            Checks.due("p29 nothing more of " + f, x.told(14 + 10 * f), SeedBank.OUTSIDE);
        }
        Checks.due("p29 all six", x.told(1), 63);
        for (int f = 0; f < 6; f++) {
            x.leave(f);
            for (int what = 0; what < 4; what++) {
                Checks.due("p29 is no more " + f, x.told(10 + 10 * f + what), SeedBank.OUTSIDE);
            }
        }
        Checks.due("p29 none", x.told(1), 0);
    }

    private static void p29AllAtTheirLimits() {
        SeedBank x = full();
        Checks.say(x, "s".repeat(60));
        long[] plain = {60, 63, 3, 5, 1, 99, 8, 0};
        for (int what = 0; what < 8; what++) {
            Checks.due("p29 told " + what, x.told(what), plain[what]);
        }
        for (int f = 0; f < 6; f++) {
            Checks.due("p29 field of " + f, x.told(10 + 10 * f), 6 * f + 5);
            Checks.due("p29 seeds of " + f, x.told(11 + 10 * f), 60);
            Checks.due("p29 lungs of " + f, x.told(12 + 10 * f), 9);
            Checks.due("p29 blown of " + f, x.told(13 + 10 * f), 9);
        }
        for (int field = 0; field < 36; field++) {
            Checks.due("p29 lies " + field, x.told(100 + field), 999);
        }
        x.done();
        Checks.due("p29 lost", x.told(7), 36 * 998);
        for (int field = 0; field < 36; field++) {
            Checks.due("p29 lies then " + field, x.told(100 + field), 1);
        }
    }

    /** told() tells of now, not of what would be behind the PAD. */
    private static void p29AsItIsNow() {
        SeedBank x = new SeedBank();
        x.family(0, 14, 9, 9);
        x.lay(14, 5);
        long[] before = Probe.allButSigns(x);
        Checks.say(x, "A9.Amsw35r");
        alike("p29 now", Probe.allButSigns(x), before);
        Checks.due("p29 ten signs", x.told(0), 10);
        Checks.due("p14 six acts", x.done(), 6);
        Checks.due("p29 then none", x.told(0), 0);
        Checks.due("p29 then seeds", x.told(11), 5);
        Checks.due("p29 then wind", x.told(2), 3);
        Checks.due("p29 then force", x.told(3), 5);
        Checks.due("p29 then rain", x.told(4), 1);
        Checks.due("p29 then hours", x.told(5), 1);
        Checks.due("p29 then lost", x.told(7), 4);
    }
}
