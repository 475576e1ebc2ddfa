/** Promises 15 to 19: pays, over, bellows, principal, tax. */
public final class PaymentsTest {
    public static void main(String[] args) {
        pays();
        over();
        overLeast();
        bellows();
        principal();
        principalWinds();
        tax();
        taxRest();
        nothingIsDone();
        Checks.end();
    }

    private static SeedBank at(int... fields) {
        SeedBank x = new SeedBank();
        for (int f = 0; f < fields.length; f++) {
            x.family(f, fields[f], 0, 1);
        }
        return x;
    }

    private static void pays() {
        Checks.due("p15 north", at(2, 32).pays(0, 1), 5);
        Checks.due("p15 one north", at(2, 8).pays(0, 1), 1);
        Checks.due("p15 east", at(12, 17).pays(0, 1), 15);
        Checks.due("p15 south", at(32, 2).pays(0, 1), 25);
        Checks.due("p15 west", at(17, 12).pays(0, 1), 35);
        Checks.due("p15 one west", at(17, 16).pays(0, 1), 31);
        Checks.due("p15 back", at(17, 16).pays(1, 0), 11);
        Checks.due("p15 not over the hedge", at(5, 6).pays(0, 1), SeedBank.NONE);
        Checks.due("p15 aslant", at(0, 7).pays(0, 1), SeedBank.NONE);
        SeedBank x = at(0, 3);
        x.set(2, 1);
        x.set(0, 2);
        Checks.due("p15 rain and wind are no matter", x.pays(0, 1), 13);
        Checks.due("p15 over a family", at(0, 3, 1).pays(0, 1), 13);
        Checks.due("p15 both one", x.pays(0, 0), SeedBank.UNKNOWN);
        Checks.due("p15 one is not", x.pays(2, 0), SeedBank.UNKNOWN);
        Checks.due("p15 other is not", x.pays(0, 2), SeedBank.UNKNOWN);
        Checks.due("p15 -1", x.pays(-1, 0), SeedBank.UNKNOWN);
        Checks.due("p15 6", x.pays(0, 6), SeedBank.UNKNOWN);
        x.wipe();
        x.say('!');
        Checks.due("p15 a fault is no matter", x.pays(0, 1), 13);
    }

    private static void over() {
        SeedBank x = at(0, 3, 21);
        Checks.due("p16 one puff", x.over(0, 1, 0), 1);
        Checks.due("p16 the other itself", x.over(0, 1, 1), 1);
        Checks.due("p16 two puffs", x.over(0, 2, 0), 2);
        Checks.due("p16 over B", x.over(0, 2, 1), 1);
        Checks.due("p16 back", x.over(2, 0, 1), 1);
        x.family(3, 35, 0, 1);
        Checks.due("p16 no way", x.over(0, 3, 0), SeedBank.NONE);
        Checks.due("p16 nobody", x.over(0, 3, 1), SeedBank.NONE);
        Checks.due("p16 no way from", x.over(3, 0, 0), SeedBank.NONE);
        Checks.due("p16 what -1", x.over(0, 1, -1), SeedBank.OUTSIDE);
        Checks.due("p16 what 2", x.over(0, 1, 2), SeedBank.OUTSIDE);
        Checks.due("p16 both one", x.over(0, 0, 0), SeedBank.UNKNOWN);
        Checks.due("p16 unknown ahead of outside", x.over(0, 4, 2), SeedBank.UNKNOWN);
        Checks.due("p16 -1", x.over(-1, 0, 0), SeedBank.UNKNOWN);
        Checks.due("p16 6", x.over(0, 6, 0), SeedBank.UNKNOWN);
        SeedBank chain = at(0, 1, 7, 8, 14, 15);
        Checks.due("p16 five puffs", chain.over(0, 5, 0), 5);
        Checks.due("p16 first of five", chain.over(0, 5, 1), 1);
        Checks.due("p16 five back", chain.over(5, 0, 0), 5);
        Checks.due("p16 first of five back", chain.over(5, 0, 1), 4);
        Checks.due("p16 in the middle", chain.over(3, 1, 0), 2);
        chain.leave(2);
        Checks.due("p16 broken", chain.over(0, 5, 0), SeedBank.NONE);
        Checks.due("p16 what is left", chain.over(5, 3, 0), 2);
    }

    private static void overLeast() {
        // From 0 to 21 lead 3 and 18, two puffs by either.
        SeedBank x = at(18, 3, 21, 0);
        Checks.due("p16 the least of two", x.over(3, 2, 1), 0);
        Checks.due("p16 two by either", x.over(3, 2, 0), 2);
        // A at 5 is a neighbour of F at 0, but only over it the way is longer.
        SeedBank y = at(5, 3, 21, 30);
        y.family(5, 0, 0, 1);
        Checks.due("p16 the least on a shortest way", y.over(5, 2, 1), 1);
        Checks.due("p16 the other is not the first", y.over(5, 2, 0), 2);
        SeedBank z = at(3, 2, 0);
        Checks.due("p16 one puff needs nobody", z.over(2, 0, 1), 0);
        Checks.due("p16 one puff over another", z.over(2, 0, 0), 1);
    }

    private static void bellows() {
        SeedBank x = new SeedBank();
        for (int k = 1; k <= 6; k++) {
            Checks.due("p17 nothing in " + k, x.bellows(k, 0), 0);
            Checks.due("p17 least of none " + k, x.bellows(k, 1), 0);
        }
        x.lay(35, 5);
        x.family(0, 28, 6, 1);
        x.lay(28, 2);
        Checks.due("p17 both of a field", x.bellows(1, 0), 8);
        Checks.due("p17 its field", x.bellows(1, 1), 28);
        Checks.due("p17 two by two", x.bellows(2, 0), 13);
        Checks.due("p17 its least field", x.bellows(2, 1), 28);
        Checks.due("p17 three by three", x.bellows(3, 1), 21);
        Checks.due("p17 five by five", x.bellows(5, 1), 7);
        Checks.due("p17 all", x.bellows(6, 1), 0);
        x.lay(0, 13);
        Checks.due("p17 the least of two", x.bellows(2, 1), 0);
        Checks.due("p17 all of it", x.bellows(6, 0), 26);
        x.lay(0, 12);
        Checks.due("p17 less there", x.bellows(2, 1), 28);
        x.leave(0);
        Checks.due("p17 its seeds lie", x.bellows(1, 0), 12);
        x.lay(5, 12);
        Checks.due("p17 not over the hedge", x.bellows(2, 0), 13);
        Checks.due("p17 k 0", x.bellows(0, 0), SeedBank.OUTSIDE);
        Checks.due("p17 k 7", x.bellows(7, 0), SeedBank.OUTSIDE);
        Checks.due("p17 what -1", x.bellows(1, -1), SeedBank.OUTSIDE);
        Checks.due("p17 what 2", x.bellows(1, 2), SeedBank.OUTSIDE);
        for (int field = 0; field < 36; field++) {
            SeedBank one = new SeedBank();
            one.lay(field, 3);
            Checks.due("p17 one field " + field, one.bellows(1, 1), field);
            int least = Math.max(field / 6 - 1, 0) * 6 + Math.max(field % 6 - 1, 0);
            Checks.due("p17 the least with " + field, one.bellows(2, 1), least);
            Checks.due("p17 what is in it", one.bellows(2, 0), 3);
        }
        SeedBank full = new SeedBank();
        for (int field = 0; field < 36; field++) {
            full.lay(field, 999);
        }
        for (int f = 0; f < 6; f++) {
            full.family(f, f, 60, 9);
        }
        Checks.due("p17 full", full.bellows(6, 0), 36 * 999 + 360);
        Checks.due("p17 full corner", full.bellows(3, 1), 0);
    }

    private static void principal() {
        SeedBank x = new SeedBank();
        Checks.due("p18 nothing", x.principal(12, 0), 0);
        Checks.due("p18 nowhere", x.principal(12, 1), 0);
        x.set(1, 0);
        x.lay(7, 1);
        x.family(0, 7, 60, 9);
        for (int m = 0; m <= 9; m++) {
            Checks.due("p18 doubled " + m, x.principal(m, 0), 1 << m);
        }
        Checks.due("p18 999 at most", x.principal(10, 0), 999);
        Checks.due("p18 still", x.principal(12, 0), 999);
        Checks.due("p18 where", x.principal(12, 1), 7);
        x.lay(3, 500);
        Checks.due("p18 most", x.principal(1, 1), 3);
        Checks.due("p18 the least of two", x.principal(12, 1), 3);
        Checks.due("p18 m -1", x.principal(-1, 0), SeedBank.OUTSIDE);
        Checks.due("p18 m 13", x.principal(13, 0), SeedBank.OUTSIDE);
        Checks.due("p18 what -1", x.principal(1, -1), SeedBank.OUTSIDE);
        Checks.due("p18 what 2", x.principal(1, 2), SeedBank.OUTSIDE);
    }

    private static void principalWinds() {
        int[] ends = {32, 17, 2, 12};
        int[] steps = {3, 3, 2, 2};
        for (int wind = 0; wind < 4; wind++) {
            SeedBank x = new SeedBank();
            x.lay(14, 1);
            x.set(0, wind);
            x.set(2, 1);
            int m = steps[wind];
            Checks.due("p18 by wind " + wind, x.principal(m, 0), 1 << m);
            Checks.due("p18 to the hedge by wind " + wind, x.principal(m, 1), ends[wind]);
            Checks.due("p18 over the hedge by wind " + wind, x.principal(m + 1, 0), 0);
            x.set(1, 5);
            Checks.due("p18 far by wind " + wind, x.principal(1, 0), 0);
        }
        for (int field = 0; field < 36; field++) {
            SeedBank one = new SeedBank();
            one.lay(field, 3);
            Checks.due("p18 most in " + field, one.principal(0, 1), field);
            boolean stays = field < 30;
            Checks.due("p18 from " + field, one.principal(1, 0), stays ? 6 : 0);
            Checks.due("p18 to the north of " + field, one.principal(1, 1), stays ? field + 6 : 0);
        }
        SeedBank x = new SeedBank();
        x.family(0, 20, 1, 1);
        x.lay(14, 3);
        Checks.due("p18 families are no matter", x.principal(1, 1), 20);
        Checks.due("p18 it lies there", x.principal(1, 0), 6);
        x.lay(20, 999);
        Checks.due("p18 all go at once", x.principal(1, 0), 999 + 6);
        Checks.due("p18 where all went", x.principal(1, 1), 26);
    }

    private static void tax() {
        SeedBank x = new SeedBank();
        x.family(0, 0, 30, 4);
        x.family(1, 3, 58, 9);
        x.family(2, 21, 4, 9);
        Checks.due("p19 A", x.tax(0, 10), 3);
        Checks.due("p19 B", x.tax(1, 10), 7);
        Checks.due("p19 C", x.tax(2, 10), 0);
        Checks.due("p19 none asked", x.tax(1, 0), 0);
        Checks.due("p19 all asked", x.tax(1, 92), 58);
        Checks.due("p19 one asked", x.tax(1, 1), 1);
        Checks.due("p19 one asked of A", x.tax(0, 1), 0);
        Checks.due("p19 most A", x.tax(0, 999), 326);
        Checks.due("p19 most B", x.tax(1, 999), 630);
        Checks.due("p19 most C", x.tax(2, 999), 43);
        Checks.due("p19 c -1", x.tax(0, -1), SeedBank.OUTSIDE);
        Checks.due("p19 c 1000", x.tax(0, 1000), SeedBank.OUTSIDE);
        Checks.due("p19 unknown ahead of outside", x.tax(3, 1000), SeedBank.UNKNOWN);
        Checks.due("p19 -1", x.tax(-1, 1), SeedBank.UNKNOWN);
        Checks.due("p19 6", x.tax(6, 1), SeedBank.UNKNOWN);
        x.lay(0, 900);
        Checks.due("p19 what lies is no matter", x.tax(1, 92), 58);
        SeedBank single = new SeedBank();
        single.family(4, 0, 1, 1);
        Checks.due("p19 one seed bears all", single.tax(4, 999), 999);
        SeedBank poor = at(0, 1);
        Checks.due("p19 nobody has any", poor.tax(0, 999), 0);
    }

    private static void taxRest() {
        SeedBank x = new SeedBank();
        int[] seeds = {7, 7, 9, 0, 7, 9};
        for (int f = 0; f < 6; f++) {
            x.family(f, f, seeds[f], 1);
        }
        int[] wants = {1, 1, 1, 0, 0, 1};
        for (int f = 0; f < 6; f++) {
            Checks.due("p19 four of " + f, x.tax(f, 4), wants[f]);
        }
        Checks.due("p19 the first of two that have most", x.tax(2, 1), 1);
        Checks.due("p19 not the second", x.tax(5, 1), 0);
        Checks.due("p19 then the second", x.tax(5, 2), 1);
        Checks.due("p19 then the least of three", x.tax(0, 3), 1);
        Checks.due("p19 not the next", x.tax(1, 3), 0);
        for (int c = 0; c <= 60; c++) {
            int sum = 0;
            for (int f = 0; f < 6; f++) {
                sum += x.tax(f, c);
            }
            Checks.due("p19 all of " + c, sum, c);
        }
    }

    private static void nothingIsDone() {
        SeedBank x = at(0, 3, 21);
        x.lay(7, 300);
        x.pays(0, 1);
        x.over(0, 2, 0);
        x.bellows(3, 0);
        x.principal(12, 0);
        x.tax(0, 10);
        Checks.due("p18 what lies stays", x.told(107), 300);
        Checks.due("p18 none is lost", x.told(7), 0);
        Checks.due("p18 the total stays", x.total(1), 300);
    }
}
