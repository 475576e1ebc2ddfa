/** Promises 27 to 29: image, restore, told. */
public final class ImagesTest {
    public static void main(String[] args) {
        refusals();
        everythingComesBack();
        twoImages();
        thePadIsNotKept();
        told();
        Checks.end();
    }

    private static void refusals() {
        SeedBank x = new SeedBank();
        Checks.due("p27 -1", x.image(-1), SeedBank.OUTSIDE);
        Checks.due("p27 2", x.image(2), SeedBank.OUTSIDE);
        Checks.due("p28 -1", x.restore(-1), SeedBank.OUTSIDE);
        Checks.due("p28 2", x.restore(2), SeedBank.OUTSIDE);
        Checks.due("p28 32", x.restore(32), SeedBank.OUTSIDE);
        Checks.due("p28 not kept", x.restore(0), SeedBank.STATE);
        Checks.due("p27 kept", x.image(1), 1);
        Checks.due("p28 the other is not", x.restore(0), SeedBank.STATE);
        Checks.due("p28 this is", x.restore(1), 1);
    }

    private static void everythingComesBack() {
        SeedBank x = new SeedBank();
        x.family(2, 9, 33, 7);
        x.lay(4, 44);
        x.set(0, 3);
        x.set(1, 2);
        x.set(2, 1);
        x.seen(3, 12);
        x.seen(5, 20);
        Checks.say(x, "rC5.rrC3sr");
        x.done();
        int[] before = all(x);
        Checks.due("p27 kept", x.image(0), 1);
        x.leave(2);
        x.family(1, 9, 1, 1);
        x.lay(4, 999);
        x.set(0, 1);
        x.set(1, 4);
        x.set(2, 0);
        x.forget();
        x.seen(1, 1);
        Checks.say(x, "B1..s");
        x.done();
        Checks.due("p28 back", x.restore(0), 1);
        int[] after = all(x);
        for (int i = 0; i < before.length; i++) {
            Checks.due("p28 told " + i, after[i], before[i]);
        }
        Checks.due("p28 sights", x.fits(-1), 21);
        x.lay(4, 1);
        Checks.due("p28 again", x.restore(0), 1);
        Checks.due("p28 as it was kept", x.told(104), 22);
    }

    private static int[] all(SeedBank x) {
        int[] rows = new int[136];
        for (int i = 1; i < rows.length; i++) {
            rows[i] = x.told(i);
        }
        return rows;
    }

    private static void twoImages() {
        SeedBank x = new SeedBank();
        x.lay(0, 1);
        x.image(0);
        x.lay(0, 2);
        x.image(1);
        x.lay(0, 3);
        x.restore(0);
        Checks.due("p28 the first", x.told(100), 1);
        x.restore(1);
        Checks.due("p28 the second", x.told(100), 2);
        x.image(0);
        x.lay(0, 9);
        x.restore(0);
        Checks.due("p27 kept anew", x.told(100), 2);
    }

    private static void thePadIsNotKept() {
        SeedBank x = new SeedBank();
        Checks.say(x, "rs");
        x.image(0);
        x.wipe();
        Checks.say(x, "r.A");
        x.restore(0);
        Checks.due("p28 the pad stays", x.told(0), 3);
        Checks.due("p28 its fault stays", x.fault(), 3);
    }

    private static void told() {
        SeedBank x = new SeedBank();
        x.family(0, 6, 12, 3);
        x.family(5, 30, 0, 1);
        Checks.say(x, "A2");
        x.done();
        Checks.due("p29 bits", x.told(1), 33);
        Checks.due("p29 field", x.told(10), 6);
        Checks.due("p29 seeds", x.told(11), 10);
        Checks.due("p29 lungs", x.told(12), 3);
        Checks.due("p29 blown", x.told(13), 2);
        Checks.due("p29 field of F", x.told(60), 30);
        Checks.due("p29 lies", x.told(112), 2);
        int[] outside = {-1, 8, 9, 14, 19, 20, 23, 50, 64, 69, 70, 71, 99, 136,
            -10, 1000, Integer.MIN_VALUE, Integer.MAX_VALUE};
        for (int what : outside) {
            Checks.due("p29 outside " + what, x.told(what), SeedBank.OUTSIDE);
        }
        x.leave(0);
        x.family(0, 6, 10, 3);
        for (int f = 1; f <= 4; f++) {
            Checks.due("p29 one that is not " + f, x.told(10 * (1 + f)), SeedBank.OUTSIDE);
        }
        Checks.say(x, "A1");
        Checks.due("p29 as it is now", x.told(11), 10);
        Checks.due("p29 signs", x.told(0), 2);
    }
}
