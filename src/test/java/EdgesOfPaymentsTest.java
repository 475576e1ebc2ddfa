/** The boundary cases of promises 15 to 19, a method for each sentence that names one. */
public final class EdgesOfPaymentsTest {
    private static final int NONE = SeedBank.NONE;

    public static void main(String[] args) {
        p15EachFieldToEachField();
        p15NoFamilyAndAllSix();
        p15ForceAndRainOfNowAreNoMatter();
        p16OnePuffAndFive();
        p16NoWay();
        p16TheLeastOfSeveral();
        p16TheOtherItself();
        p16EachFieldToEachField();
        p17SquaresFrom1To6();
        p17TheLeastOfAll();
        p17EachCorner();
        p17AllThatCanBe();
        p17NothingAtAll();
        p18YearsFrom0To12();
        p18DoublesTo999();
        p18EachWindAndForce();
        p18WindAsItIsNow();
        p18TheLeastField();
        p18FamiliesAreNoMatter();
        p18NothingIsChanged();
        p19AskedFrom0To999();
        p19NobodyHasAny();
        p19OneBearsAll();
        p19AllSixAlike();
        p19OverOneEach();
        p19WhoHasNone();
        p15To19AsThingsAreNow();
        Checks.end();
    }

    private static SeedBank at(int... fields) {
        SeedBank x = new SeedBank();
        for (int f = 0; f < fields.length; f++) {
            x.family(f, fields[f], 0, 1);
        }
        return x;
    }

    private static long windBetween(int from, int to) {
        int north = to / 6 - from / 6;
        int east = to % 6 - from % 6;
        if (north != 0 && east != 0) {
            return NONE;
        }
        if (north != 0) {
            return north > 0 ? north : 20 - north;
        }
        return east > 0 ? 10 + east : 30 - east;
    }

    private static void p15EachFieldToEachField() {
        for (int from = 0; from < 36; from++) {
            for (int to = 0; to < 36; to++) {
                if (from != to) {
                    SeedBank x = at(from, to);
                    String call = "p15 from " + from + " to " + to;
                    Checks.due(call, x.pays(0, 1), windBetween(from, to));
                    Checks.due(call + " back", x.pays(1, 0), windBetween(to, from));
                }
            }
        }
        Checks.due("p15 the least force", at(0, 6).pays(0, 1), 1);
        Checks.due("p15 the greatest", at(5, 0).pays(0, 1), 35);
        Checks.due("p15 not round the edge", at(5, 6).pays(0, 1), NONE);
        Checks.due("p15 nor from top to bottom", at(35, 4).pays(0, 1), NONE);
    }

    private static void p15NoFamilyAndAllSix() {
        SeedBank none = new SeedBank();
        SeedBank all = at(0, 1, 2, 3, 4, 5);
        for (int one = 0; one < 6; one++) {
            for (int other = 0; other < 6; other++) {
                String call = "p15 " + one + " to " + other;
                Checks.due(call + " of none", none.pays(one, other), SeedBank.UNKNOWN);
                long way = one < other ? 10 + other - one : 30 + one - other;
                long want = one == other ? SeedBank.UNKNOWN : way;
                Checks.due(call + " of all", all.pays(one, other), want);
            }
        }
    }

    private static void p15ForceAndRainOfNowAreNoMatter() {
        SeedBank x = at(0, 5);
        x.set(2, 1);
        for (int wind = 0; wind < 4; wind++) {
            for (int force = 0; force < 6; force++) {
                x.set(0, wind);
                x.set(1, force);
                Checks.due("p15 at w" + wind + force, x.pays(0, 1), 15);
                Checks.due("p16 at w" + wind + force, x.over(0, 1, 0), 1);
            }
        }
    }

    private static void p16OnePuffAndFive() {
        SeedBank x = at(0, 1, 7, 8, 14, 15);
        for (int one = 0; one < 6; one++) {
            for (int other = 0; other < 6; other++) {
                if (one != other) {
                    String call = "p16 " + one + " to " + other;
                    int puffs = Math.abs(one - other);
                    Checks.due(call, x.over(one, other, 0), puffs);
                    int first = one < other ? one + 1 : one - 1;
                    Checks.due(call + " first", x.over(one, other, 1), first);
                }
            }
        }
    }

    private static void p16NoWay() {
        SeedBank x = at(0, 7, 14, 21, 28, 35);
        for (int one = 0; one < 6; one++) {
            for (int other = 0; other < 6; other++) {
                long want = one == other ? SeedBank.UNKNOWN : NONE;
                Checks.due("p16 aslant " + one + other, x.over(one, other, 0), want);
                Checks.due("p16 aslant first " + one + other, x.over(one, other, 1), want);
            }
        }
        SeedBank two = at(0, 35);
        Checks.due("p16 two alone", two.over(0, 1, 0), NONE);
        two.family(2, 5, 0, 1);
        Checks.due("p16 over a third", two.over(0, 1, 0), 2);
        two.leave(2);
        Checks.due("p16 who has left helps nobody", two.over(0, 1, 0), NONE);
    }

    private static void p16TheLeastOfSeveral() {
        SeedBank x = at(30, 5, 35, 0);
        Checks.due("p16 by either corner", x.over(3, 2, 0), 2);
        Checks.due("p16 the least", x.over(3, 2, 1), 0);
        Checks.due("p16 the least back", x.over(2, 3, 1), 0);
        Checks.due("p16 the least between", x.over(0, 1, 1), 2);
        x.leave(0);
        Checks.due("p16 the other corner then", x.over(3, 2, 1), 1);
        // From F at 0 to C at 9 lead A at 6 and E at 3; A at 12 leads there no more.
        SeedBank y = at(6, 2, 9, 8, 3, 0);
        Checks.due("p16 two puffs", y.over(5, 1, 0), 1);
        Checks.due("p16 two to C", y.over(5, 2, 0), 2);
        Checks.due("p16 the least on a way to C", y.over(5, 2, 1), 0);
        y.family(0, 12, 0, 1);
        Checks.due("p16 not A from afar", y.over(5, 2, 1), 4);
    }

    private static void p16TheOtherItself() {
        SeedBank x = at(1, 2, 3, 4, 5, 0);
        for (int other = 0; other < 5; other++) {
            Checks.due("p16 one puff to " + other, x.over(5, other, 0), 1);
            Checks.due("p16 first to " + other, x.over(5, other, 1), other);
        }
    }

    private static void p16EachFieldToEachField() {
        for (int from = 0; from < 36; from++) {
            for (int to = 0; to < 36; to++) {
                if (from != to) {
                    SeedBank x = at(from, to);
                    boolean one = windBetween(from, to) != NONE;
                    String call = "p16 from " + from + " to " + to;
                    Checks.due(call, x.over(0, 1, 0), one ? 1 : NONE);
                    Checks.due(call + " first", x.over(1, 0, 1), one ? 0 : NONE);
                }
            }
        }
    }

    private static void p17SquaresFrom1To6() {
        for (int k = 1; k <= 6; k++) {
            SeedBank x = new SeedBank();
            for (int field = 0; field < 36; field++) {
                x.lay(field, 1);
            }
            Checks.due("p17 of ones by " + k, x.bellows(k, 0), k * k);
            Checks.due("p17 the least of ones by " + k, x.bellows(k, 1), 0);
            x.lay(35, 2);
            int last = 7 * (6 - k);
            Checks.due("p17 the last by " + k, x.bellows(k, 1), last);
            Checks.due("p17 most in the last by " + k, x.bellows(k, 0), k * k + 1);
        }
        int[] outside = {0, 7, -1, Integer.MIN_VALUE, Integer.MAX_VALUE};
        for (int k : outside) {
            Checks.due("p17 k " + k, new SeedBank().bellows(k, 0), SeedBank.OUTSIDE);
            Checks.due("p17 which of k " + k, new SeedBank().bellows(k, 1), SeedBank.OUTSIDE);
        }
    }

    private static void p17TheLeastOfAll() {
        SeedBank x = new SeedBank();
        x.lay(35, 7);
        x.lay(5, 7);
        Checks.due("p17 the least of two", x.bellows(1, 1), 5);
        Checks.due("p17 by its least field", x.bellows(2, 1), 4);
        x.lay(30, 8);
        Checks.due("p17 more is ahead of less", x.bellows(1, 1), 30);
        Checks.due("p17 and so by two", x.bellows(2, 1), 24);
        x.lay(0, 8);
        Checks.due("p17 as much in a lesser one", x.bellows(1, 1), 0);
    }

    /** A square goes nowhere over the edge: only those wholly inside are looked at. */
    private static void p17EachCorner() {
        for (int k = 1; k <= 6; k++) {
            for (int corner = 0; corner < 36; corner++) {
                if (corner / 6 + k <= 6 && corner % 6 + k <= 6) {
                    SeedBank x = new SeedBank();
                    x.lay(corner, 1);
                    x.lay(corner + 7 * (k - 1), k == 1 ? 1 : 500);
                    x.lay(corner + k - 1, k == 1 ? 1 : 300);
                    Checks.due("p17 corner " + corner + " by " + k, x.bellows(k, 1), corner);
                    Checks.due("p17 in " + corner + " by " + k, x.bellows(k, 0), k == 1 ? 1 : 801);
                }
            }
        }
    }

    private static void p17AllThatCanBe() {
        SeedBank x = new SeedBank();
        for (int field = 0; field < 36; field++) {
            x.lay(field, 999);
        }
        int[] fields = {35, 34, 29, 28, 27, 21};
        for (int f = 0; f < 6; f++) {
            x.family(f, fields[f], 60, 9);
        }
        Checks.due("p17 all by 6", x.bellows(6, 0), 36 * 999 + 360);
        Checks.due("p17 all by 3", x.bellows(3, 0), 9 * 999 + 360);
        Checks.due("p17 which by 3", x.bellows(3, 1), 21);
        Checks.due("p17 all by 2", x.bellows(2, 0), 4 * 999 + 240);
        Checks.due("p17 which by 2", x.bellows(2, 1), 28);
        Checks.due("p17 all by 1", x.bellows(1, 0), 1059);
        Checks.due("p17 which by 1", x.bellows(1, 1), 21);
    }

    private static void p17NothingAtAll() {
        for (int k = 1; k <= 6; k++) {
            SeedBank x = at(35, 34);
            Checks.due("p17 nothing by " + k, x.bellows(k, 0), 0);
            Checks.due("p17 the least with nothing by " + k, x.bellows(k, 1), 0);
            x.family(0, 35, 1, 1);
            Checks.due("p17 one seed by " + k, x.bellows(k, 0), 1);
            Checks.due("p17 which has one by " + k, x.bellows(k, 1), 7 * (6 - k));
        }
    }

    private static void p18YearsFrom0To12() {
        SeedBank x = new SeedBank();
        x.set(1, 0);
        x.lay(35, 1);
        for (int m = 0; m <= 12; m++) {
            Checks.due("p18 years " + m, x.principal(m, 0), Math.min(999, 1 << m));
            Checks.due("p18 where in " + m, x.principal(m, 1), 35);
        }
        int[] outside = {-1, 13, Integer.MIN_VALUE, Integer.MAX_VALUE};
        for (int m : outside) {
            Checks.due("p18 m " + m, x.principal(m, 0), SeedBank.OUTSIDE);
            Checks.due("p18 where in m " + m, x.principal(m, 1), SeedBank.OUTSIDE);
        }
    }

    private static void p18DoublesTo999() {
        int[] lay = {0, 1, 499, 500, 998, 999};
        int[] then = {0, 2, 998, 999, 999, 999};
        for (int i = 0; i < lay.length; i++) {
            SeedBank x = new SeedBank();
            x.lay(0, lay[i]);
            Checks.due("p18 doubles " + lay[i], x.principal(1, 0), then[i]);
            x.set(1, 0);
            Checks.due("p18 doubles on the spot " + lay[i], x.principal(1, 0), then[i]);
        }
        SeedBank x = new SeedBank();
        for (int field = 0; field < 36; field++) {
            x.lay(field, 999);
        }
        Checks.due("p18 all that can lie", x.principal(0, 0), 36 * 999);
        for (int m = 0; m <= 12; m++) {
            int rows = Math.max(0, 6 - m);
            Checks.due("p18 rows left in " + m, x.principal(m, 0), rows * 6 * 999);
            Checks.due("p18 first row in " + m, x.principal(m, 1), rows == 0 ? 0 : 6 * m);
        }
        x.set(1, 0);
        Checks.due("p18 all stays without force", x.principal(12, 0), 36 * 999);
    }

    private static void p18EachWindAndForce() {
        int[] north = {1, 0, -1, 0};
        int[] east = {0, 1, 0, -1};
        for (int field = 0; field < 36; field++) {
            for (int way = 0; way < 24; way++) {
                SeedBank x = new SeedBank();
                x.lay(field, 3);
                x.set(0, way / 6);
                x.set(1, way % 6);
                int y = field / 6 + north[way / 6] * (way % 6);
                int e = field % 6 + east[way / 6] * (way % 6);
                boolean inside = y >= 0 && y <= 5 && e >= 0 && e <= 5;
                String call = "p18 from " + field + " by " + way;
                Checks.due(call, x.principal(1, 0), inside ? 6 : 0);
                Checks.due(call + " where", x.principal(1, 1), inside ? 6 * y + e : 0);
            }
        }
    }

    /** The WIND that is said is of the PAD yet, that which is set is of now. */
    private static void p18WindAsItIsNow() {
        SeedBank x = new SeedBank();
        x.lay(14, 1);
        Checks.say(x, "w15");
        Checks.due("p18 the wind of now", x.principal(1, 1), 20);
        x.done();
        Checks.due("p18 the wind that was said", x.principal(1, 0), 0);
        x.set(1, 1);
        Checks.due("p18 the force that is set", x.principal(1, 1), 15);
        x.set(2, 1);
        Checks.due("p18 rain is no matter", x.principal(1, 1), 15);
    }

    private static void p18TheLeastField() {
        SeedBank x = new SeedBank();
        Checks.due("p18 nothing lies", x.principal(0, 1), 0);
        x.set(1, 0);
        x.lay(35, 500);
        x.lay(34, 501);
        Checks.due("p18 the most", x.principal(0, 1), 34);
        Checks.due("p18 the least of those with 999", x.principal(1, 1), 34);
        x.lay(1, 499);
        Checks.due("p18 one less than they", x.principal(1, 1), 34);
        Checks.due("p18 as much as they", x.principal(2, 1), 1);
    }

    private static void p18FamiliesAreNoMatter() {
        SeedBank x = at(14, 20, 26);
        x.family(1, 20, 0, 9);
        x.lay(14, 5);
        Checks.due("p18 it lies where a family is", x.principal(1, 1), 20);
        Checks.due("p18 and is no seed of it", x.principal(1, 0), 10);
        Checks.due("p18 and goes on", x.principal(2, 1), 26);
        x.family(1, 20, 60, 9);
        Checks.due("p18 seeds of families do not grow", x.principal(1, 0), 10);
    }

    private static void p18NothingIsChanged() {
        SeedBank x = new SeedBank();
        x.lay(35, 999);
        x.lay(0, 999);
        Checks.due("p18 one is blown out", x.principal(1, 0), 999);
        Checks.due("p18 none is lost in fact", x.told(7), 0);
        Checks.due("p18 all lies yet", x.total(1), 1998);
    }

    private static void p19AskedFrom0To999() {
        SeedBank x = new SeedBank();
        x.family(0, 0, 2, 1);
        x.family(5, 1, 1, 1);
        Checks.due("p19 none", x.tax(0, 0), 0);
        Checks.due("p19 none of F", x.tax(5, 0), 0);
        Checks.due("p19 one", x.tax(0, 1), 1);
        Checks.due("p19 one of F", x.tax(5, 1), 0);
        Checks.due("p19 two", x.tax(0, 2), 2);
        Checks.due("p19 three of F", x.tax(5, 3), 1);
        Checks.due("p19 998", x.tax(0, 998), 666);
        Checks.due("p19 998 of F", x.tax(5, 998), 332);
        Checks.due("p19 999", x.tax(0, 999), 666);
        Checks.due("p19 999 of F", x.tax(5, 999), 333);
        int[] outside = {-1, 1000, Integer.MIN_VALUE, Integer.MAX_VALUE};
        for (int c : outside) {
            Checks.due("p19 c " + c, x.tax(0, c), SeedBank.OUTSIDE);
        }
    }

    private static void p19NobodyHasAny() {
        SeedBank x = at(0, 1, 2, 3, 4, 5);
        x.lay(0, 999);
        for (int f = 0; f < 6; f++) {
            Checks.due("p19 nobody has any " + f, x.tax(f, 999), 0);
            Checks.due("p19 nor of none " + f, x.tax(f, 0), 0);
        }
        Checks.due("p19 outside all the same", x.tax(0, 1000), SeedBank.OUTSIDE);
    }

    private static void p19OneBearsAll() {
        for (int c = 0; c <= 999; c += 111) {
            SeedBank x = at(0, 1, 2, 3, 4, 5);
            x.family(4, 4, 1, 1);
            for (int f = 0; f < 6; f++) {
                Checks.due("p19 one bears " + c + " of " + f, x.tax(f, c), f == 4 ? c : 0);
            }
        }
    }

    private static void p19AllSixAlike() {
        SeedBank x = new SeedBank();
        for (int f = 0; f < 6; f++) {
            x.family(f, f, 60, 9);
        }
        int[] asked = {0, 1, 5, 6, 7, 360, 995, 999};
        for (int c : asked) {
            for (int f = 0; f < 6; f++) {
                Checks.due("p19 " + c + " of " + f, x.tax(f, c), c / 6 + (f < c % 6 ? 1 : 0));
            }
        }
    }

    private static void p19OverOneEach() {
        SeedBank x = new SeedBank();
        int[] seeds = {1, 2, 3, 3, 2, 1};
        for (int f = 0; f < 6; f++) {
            x.family(f, f, seeds[f], 9);
        }
        // Of 12 each bears its seeds; of fewer who has 3 comes first, then who has 2.
        int[][] shares = {{0, 0, 0, 0, 0, 0}, {0, 0, 1, 0, 0, 0}, {0, 0, 1, 1, 0, 0},
            {0, 1, 1, 1, 0, 0}, {0, 0, 2, 2, 0, 0}, {0, 1, 2, 2, 0, 0}, {0, 1, 2, 2, 1, 0}};
        for (int c = 0; c <= 60; c++) {
            for (int f = 0; f < 6; f++) {
                long want = c < shares.length ? shares[c][f] : taxOf(seeds, f, c);
                Checks.due("p19 " + c + " of " + f, x.tax(f, c), want);
            }
        }
        for (int f = 0; f < 6; f++) {
            Checks.due("p19 twelve of " + f, x.tax(f, 12), seeds[f]);
        }
    }

    /** A share told anew: cut, and then one by one from the richest on. */
    private static int taxOf(int[] seeds, int family, int c) {
        int all = 0;
        for (int its : seeds) {
            all += its;
        }
        int[] share = new int[seeds.length];
        int rest = c;
        for (int f = 0; f < seeds.length; f++) {
            share[f] = c * seeds[f] / all;
            rest -= share[f];
        }
        for (int has = 60; has >= 0; has--) {
            for (int f = 0; f < seeds.length; f++) {
                if (seeds[f] == has && rest > 0) {
                    share[f]++;
                    rest--;
                }
            }
        }
        return share[family];
    }

    private static void p19WhoHasNone() {
        SeedBank x = new SeedBank();
        x.family(0, 0, 0, 1);
        x.family(1, 1, 60, 1);
        x.family(2, 2, 59, 1);
        for (int c = 0; c <= 99; c++) {
            Checks.due("p19 who has none of " + c, x.tax(0, c), 0);
            Checks.due("p19 together " + c, x.tax(1, c) + x.tax(2, c), c);
        }
        x.leave(1);
        Checks.due("p19 who has left is not asked", x.tax(1, 10), SeedBank.UNKNOWN);
        Checks.due("p19 who stays bears all", x.tax(2, 10), 10);
    }

    /** Four families, three of them in a row, and seeds about them. */
    private static SeedBank four() {
        SeedBank x = new SeedBank();
        x.family(0, 0, 60, 9);
        x.family(1, 3, 58, 4);
        x.family(2, 21, 4, 1);
        x.family(4, 5, 1, 9);
        x.lay(3, 998);
        x.lay(14, 7);
        x.lay(35, 500);
        return x;
    }

    private static String asksOf(SeedBank x) {
        StringBuilder answers = new StringBuilder();
        for (int one = 0; one < 6; one++) {
            answers.append(" tax ").append(x.tax(one, 100));
            for (int other = 0; other < 6; other++) {
                answers.append(" pays ").append(x.pays(one, other));
                answers.append(" over ").append(x.over(one, other, 0));
                answers.append(" first ").append(x.over(one, other, 1));
            }
        }
        for (int k = 1; k <= 6; k++) {
            answers.append(" bellows ").append(x.bellows(k, 0));
            answers.append(" in ").append(x.bellows(k, 1));
        }
        return answers.toString();
    }

    private static String yearsOf(SeedBank x) {
        StringBuilder answers = new StringBuilder();
        for (int m = 0; m <= 12; m++) {
            answers.append(" lies ").append(x.principal(m, 0));
            answers.append(" in ").append(x.principal(m, 1));
        }
        return answers.toString();
    }

    /** RAIN and the PAD, whatever it says, are no matter; WIND and FORCE are one for principal. */
    private static void p15To19AsThingsAreNow() {
        String[] pads = {"", "AcBcCcEc", "w25sss", "A9.A1Bm", "F1", "A", "w4", "~"};
        String want = asksOf(four());
        Checks.holds("p15 to p19 ask enough", want.contains(" pays 13 over 1 first 1"));
        for (int i = 0; i < 24 * pads.length; i++) {
            SeedBank calm = four();
            calm.set(0, i % 4);
            calm.set(1, i / 4 % 6);
            SeedBank x = four();
            x.set(0, i % 4);
            x.set(1, i / 4 % 6);
            x.set(2, 1);
            String pad = pads[i / 24];
            Checks.say(x, pad);
            String when = " at w" + i % 4 + i / 4 % 6 + " with the pad " + pad;
            Checks.holds("p15 to p19 as now" + when, asksOf(x).equals(want));
            Checks.holds("p18 as now" + when, yearsOf(x).equals(yearsOf(calm)));
            Checks.due("p07 the pad is as it was" + when, x.wipe(), pad.length());
        }
    }
}
