/** What only many calls on one object bring about: each run goes on to the 512th call. */
public final class ManyCallsTest {
    private static final int CALLS = 512;
    private static final int NONE = SeedBank.NONE;
    private static final int STATE = SeedBank.STATE;
    private static final int OUTSIDE = SeedBank.OUTSIDE;

    private final String promise;
    private final SeedBank bank = new SeedBank();
    private int calls = 0;

    private ManyCallsTest(String promise) {
        this.promise = promise;
    }

    public static void main(String[] args) {
        p01ObjectsKnowNothingOfOneAnother();
        p02FamiliesMoveOnAndOn();
        p02AnewWithAllBreath();
        p03WhatIsLostAddsUp();
        p04EachFieldLaidOverAndOver();
        p05EachWindSetOverAndOver();
        p06PadsFilledOverAndOver();
        p08FaultsOfPadBehindPad();
        p09JudgedOverAndOver();
        p10BreathOfHourBehindHour();
        p11LongPadsAndShortOnes();
        p12HourByHourTo99();
        p12LostPadByPad();
        p13RuinedOverAndOver();
        p14DoneOverAndOver();
        p15PaymentsAsFamiliesMove();
        p16WaysAsFamiliesComeAndGo();
        p17SquaresAsSeedsAreLaid();
        p18YearsBehindYears();
        p19EachTaxIsSharedWhole();
        p20SightsSeenAndForgotten();
        p24GustsBehindGusts();
        p25LoversBehindLovers();
        p26YearsByDrawsBehindOthers();
        p27ImagesKeptOverAndOver();
        p27AllButThePadOverAndOver();
        p28HoursComeBack();
        p29EachNumberToldOverAndOver();
        p29RefusedOverAndOver();
        Checks.end();
    }

    private void due(String call, long got, long want) {
        calls++;
        Checks.due(promise + " call " + calls + ", " + call, got, want);
    }

    private boolean hasRoomFor(int more) {
        return calls + more <= CALLS;
    }

    /** Says a text on an empty PAD. */
    private void say(String text) {
        for (int i = 0; i < text.length(); i++) {
            due("say " + text.charAt(i), bank.say(text.charAt(i)), i + 1);
        }
    }

    private void done(String text, int acts) {
        say(text);
        due("done " + text, bank.done(), acts);
    }

    /** All calls that are left, the 512th too, are told what is so at the end. */
    private void endsWith(int what, long want) {
        Checks.holds(promise + " has calls left", calls < CALLS);
        while (hasRoomFor(1)) {
            due("told " + what, bank.told(what), want);
        }
        Checks.due(promise + " calls", calls, CALLS);
    }

    private static void p01ObjectsKnowNothingOfOneAnother() {
        SeedBank used = new SeedBank();
        SeedBank beside = new SeedBank();
        for (int i = 0; i < 42; i++) {
            used.family(i % 6, 7 * (i % 6), 60, 9);
            used.lay(i % 36, 999);
            used.set(0, 2);
            used.set(1, 5);
            used.seen(1, 1);
            used.image(i % 2);
            used.year(i, 99, 0);
            used.principal(12, 0);
            used.say('s');
            used.say('.');
            used.done();
            used.say('r');
        }
        Checks.due("p01 the pad of the used one", used.wipe(), 1);
        Checks.due("p01 hours of the used one", used.told(5), 42);
        isNew("p01 the one beside", beside);
        isNew("p01 the one behind", new SeedBank());
    }

    private static void isNew(String which, SeedBank bank) {
        for (int what = 0; what < 8; what++) {
            Checks.due(which + " told " + what, bank.told(what), what == 3 ? 1 : 0);
        }
        for (int f = 0; f < 6; f++) {
            Checks.due(which + " has no " + f, bank.told(10 * (1 + f)), OUTSIDE);
        }
        for (int field = 0; field < 36; field++) {
            Checks.due(which + " lies in " + field, bank.told(100 + field), 0);
        }
        Checks.due(which + " judged", bank.judge(2), 0);
        Checks.due(which + " fits", bank.fits(-1), 360);
        Checks.due(which + " image 0", bank.restore(0), STATE);
        Checks.due(which + " image 1", bank.restore(1), STATE);
    }

    private static void p02FamiliesMoveOnAndOn() {
        ManyCallsTest run = new ManyCallsTest("p02");
        int[] home = {-1, -1, -1, -1, -1, -1};
        for (int i = 0; i < 250; i++) {
            int family = i % 6;
            int field = (5 * i + i / 9) % 36;
            int host = -1;
            int there = 0;
            for (int f = 0; f < 6; f++) {
                host = home[f] == field ? f : host;
                there += home[f] >= 0 || f == family ? 1 : 0;
            }
            boolean can = host < 0 || host == family;
            home[family] = can ? field : home[family];
            run.due("family " + family + " on " + field,
                    run.bank.family(family, field, i % 61, 9), can ? there : STATE);
            run.due("its field", run.bank.told(10 * (1 + family)), home[family]);
        }
        run.endsWith(7, 0);
    }

    /** Who is there anew has blown nothing, however often. */
    private static void p02AnewWithAllBreath() {
        ManyCallsTest run = new ManyCallsTest("p02");
        for (int i = 0; run.hasRoomFor(6); i++) {
            run.due("family", run.bank.family(2, 14, 3, 3), 1);
            run.done("C3", 1);
            run.due("blown", run.bank.told(33), 3);
        }
        run.due("family", run.bank.family(2, 14, 3, 3), 1);
        run.endsWith(33, 0);
    }

    private static void p03WhatIsLostAddsUp() {
        ManyCallsTest run = new ManyCallsTest("p03");
        run.due("lay", run.bank.lay(35, 998), 0);
        for (int i = 0; i < 255; i++) {
            run.due("family", run.bank.family(i % 6, 35, 60, 9), 1);
            run.due("leave", run.bank.leave(i % 6), 0);
        }
        run.endsWith(7, 255 * 60 - 1);
    }

    private static void p04EachFieldLaidOverAndOver() {
        ManyCallsTest run = new ManyCallsTest("p04");
        int[] lies = new int[36];
        int all = 0;
        for (int i = 0; i < 255; i++) {
            int field = 11 * i % 36;
            int seeds = i % 5 == 0 ? 999 : 37 * i % 1000;
            run.due("lay in " + field, run.bank.lay(field, seeds), lies[field]);
            all += seeds - lies[field];
            lies[field] = seeds;
            run.due("all that lies", run.bank.total(1), all);
        }
        run.endsWith(7, 0);
    }

    private static void p05EachWindSetOverAndOver() {
        ManyCallsTest run = new ManyCallsTest("p05");
        int[] was = {0, 1, 0};
        int[] most = {3, 5, 1};
        for (int i = 0; i < 255; i++) {
            int which = i % 3;
            int v = i / 3 % (most[which] + 2);
            boolean can = v <= most[which];
            run.due("set " + which + " to " + v, run.bank.set(which, v),
                    can ? was[which] : OUTSIDE);
            was[which] = can ? v : was[which];
            run.due("told", run.bank.told(2 + which), was[which]);
        }
        run.endsWith(7, 0);
    }

    private static void p06PadsFilledOverAndOver() {
        ManyCallsTest run = new ManyCallsTest("p06");
        for (int pad = 0; pad < 8; pad++) {
            run.say(String.valueOf((char) ('!' + 13 * pad)).repeat(60));
            run.due("one more", run.bank.say('s'), SeedBank.FULL);
            run.due("p07 wipe", run.bank.wipe(), 60);
        }
        run.say("A9".repeat(6));
        run.endsWith(0, 12);
    }

    /** A fault is of its PAD alone; the last PAD has no sign that can not stand there. */
    private static void p08FaultsOfPadBehindPad() {
        ManyCallsTest run = new ManyCallsTest("p08");
        String text = "w25A1Bc.rsCm".repeat(5);
        String moreMustCome = "++-+-+----+-".repeat(5);
        int[] broken = {0, 24, 59, 60};
        for (int place : broken) {
            for (int i = 0; i < 60; i++) {
                run.due("say", run.bank.say(i == place ? '~' : text.charAt(i)), i + 1);
                int soFar = moreMustCome.charAt(i) == '+' ? i + 1 : NONE;
                run.due("fault by " + (i + 1), run.bank.fault(), i >= place ? place : soFar);
            }
            run.due("wipe", run.bank.wipe(), 60);
        }
        run.endsWith(0, 0);
    }

    /** A question adds nothing to what the next one answers. */
    private static void p09JudgedOverAndOver() {
        ManyCallsTest run = new ManyCallsTest("p09");
        run.due("family", run.bank.family(0, 14, 60, 9), 1);
        run.due("family", run.bank.family(1, 20, 2, 9), 2);
        run.say("A9Bc.A3");
        while (run.calls < 250) {
            run.due("judge 0", run.bank.judge(0), NONE);
            run.due("judge 1", run.bank.judge(1), NONE);
            run.due("judge 2", run.bank.judge(2), 9 + 11 + 3);
            run.due("p10 behind", run.bank.behind(0, 1), 3);
            run.due("p12 total", run.bank.total(3), 1);
        }
        run.due("wipe", run.bank.wipe(), 7);
        run.say("A9Bc.A3A7");
        while (run.hasRoomFor(4)) {
            run.due("judge 0", run.bank.judge(0), 4);
            run.due("judge 1", run.bank.judge(1), 4);
            run.due("judge 2", run.bank.judge(2), STATE);
        }
        run.endsWith(13, 0);
    }

    /** BLOWN goes up from PAD to PAD, and is nothing again with each hour. */
    private static void p10BreathOfHourBehindHour() {
        ManyCallsTest run = new ManyCallsTest("p10");
        run.due("force", run.bank.set(1, 0), 1);
        run.due("family", run.bank.family(5, 35, 9, 3), 1);
        while (run.hasRoomFor(19)) {
            for (int blown = 0; blown < 3; blown++) {
                run.due("blown", run.bank.behind(5, 1), blown);
                run.done("F1", 1);
            }
            run.say("F1");
            run.due("p09 why", run.bank.judge(1), 4);
            run.due("wipe", run.bank.wipe(), 2);
            run.done(".", 1);
        }
        run.endsWith(61, 9);
    }

    /** What a longer PAD did is not so behind a shorter one. */
    private static void p11LongPadsAndShortOnes() {
        ManyCallsTest run = new ManyCallsTest("p11");
        run.due("family", run.bank.family(0, 14, 60, 9), 1);
        while (run.hasRoomFor(30)) {
            run.say("w05A1w01A2w15A3");
            run.due("north by 1", run.bank.lies(20), 2);
            run.due("east by 5", run.bank.lies(19), 0);
            run.due("p12 lost", run.bank.total(2), 4);
            run.due("wipe", run.bank.wipe(), 15);
            run.say("A1s");
            run.due("half of one, cut", run.bank.lies(20), 1);
            run.due("p12 none lost", run.bank.total(2), 0);
            run.due("p10 seeds", run.bank.behind(0, 0), 59);
            run.due("wipe", run.bank.wipe(), 3);
            run.due("empty pad", run.bank.lies(20), 0);
        }
        run.endsWith(11, 60);
    }

    private static void p12HourByHourTo99() {
        ManyCallsTest run = new ManyCallsTest("p12");
        for (int hour = 1; hour <= 99; hour++) {
            run.done(".", 1);
        }
        run.due("hours", run.bank.total(3), 99);
        while (run.hasRoomFor(6)) {
            run.say("s.");
            run.due("p09 the act", run.bank.judge(0), 1);
            run.due("p09 why", run.bank.judge(1), 5);
            run.due("p14 done", run.bank.done(), STATE);
            run.due("wipe", run.bank.wipe(), 2);
        }
        run.endsWith(5, 99);
    }

    private static void p12LostPadByPad() {
        ManyCallsTest run = new ManyCallsTest("p12");
        for (int pad = 0; pad < 8; pad++) {
            run.due("lay", run.bank.lay(pad, 999), 0);
            run.say("s".repeat(60));
            run.due("lost", run.bank.total(2), 998 * (pad + 1));
            run.due("done", run.bank.done(), 60);
        }
        run.endsWith(7, 998 * 8);
    }

    /** Who was ruined in a PAD that is done is not ruined in the next. */
    private static void p13RuinedOverAndOver() {
        ManyCallsTest run = new ManyCallsTest("p13");
        for (int i = 0; run.hasRoomFor(12); i++) {
            int family = i % 6;
            String ahead = i % 2 == 0 ? "" : "rr";
            run.due("family", run.bank.family(family, 6 * family, 2, 9), Math.min(i + 1, 6));
            run.say(ahead + (char) ('A' + family) + "c");
            run.due("act", run.bank.ruined(0), ahead.length());
            run.due("who", run.bank.ruined(1), family);
            run.due("done", run.bank.done(), 1 + ahead.length());
            run.say("s");
            run.due("no act", run.bank.ruined(0), NONE);
            run.due("nobody", run.bank.ruined(1), NONE);
            run.due("done", run.bank.done(), 1);
        }
        run.endsWith(4, 0);
    }

    /** Sixty seeds go over the hedge and back again. */
    private static void p14DoneOverAndOver() {
        ManyCallsTest run = new ManyCallsTest("p14");
        run.due("family", run.bank.family(0, 14, 60, 9), 1);
        run.due("family", run.bank.family(1, 20, 0, 9), 2);
        for (int i = 0; run.hasRoomFor(9); i++) {
            boolean over = i % 2 == 0;
            run.done(over ? "w01Ac" : "w21Bc", 2);
            run.due("A's seeds", run.bank.told(11), over ? 0 : 60);
            run.due("B's seeds", run.bank.told(21), over ? 60 : 0);
        }
        run.endsWith(7, 0);
    }

    private static void p15PaymentsAsFamiliesMove() {
        ManyCallsTest run = new ManyCallsTest("p15");
        run.due("family", run.bank.family(0, 14, 1, 1), 1);
        for (int i = 0; run.hasRoomFor(5); i++) {
            int field = 7 * i % 36 == 14 ? 15 : 7 * i % 36;
            int north = field / 6 - 2;
            int east = field % 6 - 2;
            boolean crossed = north != 0 && east != 0;
            int there = north > 0 ? north : 20 - north;
            int back = north > 0 ? 20 + north : -north;
            if (north == 0) {
                there = east > 0 ? 10 + east : 30 - east;
                back = east > 0 ? 30 + east : 10 - east;
            }
            run.due("family on " + field, run.bank.family(1, field, 1, 1), 2);
            run.due("pays", run.bank.pays(0, 1), crossed ? NONE : there);
            run.due("pays back", run.bank.pays(1, 0), crossed ? NONE : back);
            run.due("p16 over", run.bank.over(0, 1, 0), crossed ? NONE : 1);
        }
        run.endsWith(10, 14);
    }

    /** A way over others is there as long as they are. */
    private static void p16WaysAsFamiliesComeAndGo() {
        ManyCallsTest run = new ManyCallsTest("p16");
        run.due("family", run.bank.family(0, 0, 1, 1), 1);
        run.due("family", run.bank.family(5, 35, 1, 1), 2);
        while (run.hasRoomFor(10)) {
            run.due("no way", run.bank.over(0, 5, 0), NONE);
            run.due("family", run.bank.family(4, 5, 1, 1), 3);
            run.due("two puffs", run.bank.over(0, 5, 0), 2);
            run.due("over E", run.bank.over(0, 5, 1), 4);
            run.due("family", run.bank.family(3, 30, 1, 1), 4);
            run.due("over D", run.bank.over(0, 5, 1), 3);
            run.due("leave", run.bank.leave(4), 3);
            run.due("leave", run.bank.leave(3), 2);
            run.due("nobody on the way", run.bank.over(0, 5, 1), NONE);
        }
        run.endsWith(1, 33);
    }

    private static void p17SquaresAsSeedsAreLaid() {
        ManyCallsTest run = new ManyCallsTest("p17");
        int[] lies = new int[36];
        int all = 0;
        for (int i = 0; run.hasRoomFor(5); i++) {
            int field = 13 * i % 36;
            int seeds = 101 * i % 1000;
            run.due("lay", run.bank.lay(field, seeds), lies[field]);
            all += seeds - lies[field];
            lies[field] = seeds;
            int most = 0;
            for (int f = 0; f < 36; f++) {
                most = lies[f] > lies[most] ? f : most;
            }
            run.due("one field", run.bank.bellows(1, 0), lies[most]);
            run.due("which", run.bank.bellows(1, 1), most);
            run.due("all", run.bank.bellows(6, 0), all);
        }
        run.endsWith(7, 0);
    }

    private static void p18YearsBehindYears() {
        ManyCallsTest run = new ManyCallsTest("p18");
        run.due("east", run.bank.set(0, 1), 0);
        run.due("lay", run.bank.lay(0, 3), 0);
        run.due("lay", run.bank.lay(35, 100), 0);
        while (run.hasRoomFor(9)) {
            run.due("12 years", run.bank.principal(12, 0), 0);
            run.due("no year", run.bank.principal(0, 0), 103);
            run.due("no year, where", run.bank.principal(0, 1), 35);
            run.due("a year", run.bank.principal(1, 0), 6);
            run.due("a year, where", run.bank.principal(1, 1), 1);
            run.due("5 years", run.bank.principal(5, 0), 96);
            run.due("5 years, where", run.bank.principal(5, 1), 5);
            run.due("6 years", run.bank.principal(6, 0), 0);
        }
        run.endsWith(135, 100);
    }

    private static void p19EachTaxIsSharedWhole() {
        ManyCallsTest run = new ManyCallsTest("p19");
        int[] seeds = {7, 11, 60, 1, 0, 11};
        for (int f = 0; f < 6; f++) {
            run.due("family", run.bank.family(f, f, seeds[f], 1), f + 1);
        }
        for (int c = 0; run.hasRoomFor(7); c += 12) {
            int paid = 0;
            for (int f = 0; f < 6; f++) {
                int share = run.bank.tax(f, c);
                int cut = c * seeds[f] / 90;
                Checks.holds("p19 the share of " + f + " of " + c,
                        share == cut || share == cut + 1);
                run.calls++;
                paid += share;
            }
            Checks.due("p19 all of " + c, paid, c);
        }
        run.endsWith(31, 60);
    }

    /** SIGHTS that were forgotten, and one that was FULL, are no matter any more. */
    private static void p20SightsSeenAndForgotten() {
        ManyCallsTest run = new ManyCallsTest("p20");
        for (int i = 0; run.hasRoomFor(17); i++) {
            int a = 1 + i % 9;
            int n = 1 + 7 * i % 40;
            for (int b = 1; b <= 8; b++) {
                run.due("seen " + b, run.bank.seen(b, Math.min(a * b, n)), b);
            }
            run.due("a ninth", run.bank.seen(9, 81), SeedBank.FULL);
            // Where n holds back the first breath already, a can be n or more; where it holds
            // back none, n can be 8 a or more.
            int fit = a >= n ? 10 - n : 8 * a > n ? 1 : 41 - 8 * a;
            run.due("p22 how many", run.bank.fits(-1), fit);
            run.due("p22 the first", run.bank.fits(0), 100 * Math.min(a, n) + Math.min(8 * a, n));
            run.due("p21 forget", run.bank.forget(), 8);
            run.due("p22 all fit", run.bank.fits(-1), 360);
            run.due("p23 to try", run.bank.tries(0), 9);
            run.due("p23 left", run.bank.tries(1), 40);
            run.due("p21 forget", run.bank.forget(), 0);
        }
        run.endsWith(6, 0);
    }

    /** Wherever a seed starts, it ends somewhere: the parts make one. */
    private static void p24GustsBehindGusts() {
        ManyCallsTest run = new ManyCallsTest("p24");
        int[] from = {0, 14, 35, 5, 21, 30};
        for (int i = 0; i < from.length; i++) {
            long sum = 0;
            for (int to = -1; to < 36; to++) {
                long lower = run.bank.gusts(from[i], to, 5, 1);
                long upper = run.bank.gusts(from[i], to, 5, 0);
                Checks.holds("p24 lower number from " + from[i] + " to " + to,
                        lower >= 1 && 1024 % lower == 0);
                sum += lower < 1 ? 0 : upper * 1024 / lower;
                run.calls += 2;
            }
            Checks.due("p24 all from " + from[i], sum, 1024);
            run.due("no gust", run.bank.gusts(from[i], from[i], 0, 0), 1);
            run.due("one gust", run.bank.gusts(14, 15, 1, 1), 4);
        }
        run.endsWith(7, 0);
    }

    private static void p25LoversBehindLovers() {
        ManyCallsTest run = new ManyCallsTest("p25");
        for (int i = 0; run.hasRoomFor(3); i++) {
            int n = 17 * i % 100;
            int k = 1 + i % 9;
            int spare = n % (k + 1);
            run.due("whether " + n + " by " + k, run.bank.lovers(n, k, 0), spare > 0 ? 1 : 0);
            run.due("how many", run.bank.lovers(n, k, 1), spare > 0 ? spare : NONE);
        }
        run.endsWith(0, 0);
    }

    private static SeedBank settled(SeedBank bank) {
        for (int f = 0; f < 6; f++) {
            bank.family(f, 7 * f, 10 * f, 1 + f);
            bank.lay(7 * f, 100 * f);
        }
        return bank;
    }

    private static Model settled(Model model) {
        for (int f = 0; f < 6; f++) {
            model.family(f, 7 * f, 10 * f, 1 + f);
            model.lay(7 * f, 100 * f);
        }
        return model;
    }

    /** A YEAR is as if no other had been drawn ahead of it. */
    private static void p26YearsByDrawsBehindOthers() {
        ManyCallsTest run = new ManyCallsTest("p26");
        Model model = settled(new Model());
        settled(run.bank);
        run.calls += 12;
        for (int i = 0; run.hasRoomFor(2); i++) {
            int seed = 167 * i % 10000;
            int m = 1 + 10 * i % 99;
            int what = i % 3;
            run.due("year " + seed + " " + m + " " + what, run.bank.year(seed, m, what),
                    model.year(seed, m, what));
        }
        run.endsWith(61, 50);
    }

    /** What lies is kept in one image, and comes back out of the other. */
    private static void p27ImagesKeptOverAndOver() {
        ManyCallsTest run = new ManyCallsTest("p27");
        for (int i = 0; i < 127; i++) {
            run.due("lay", run.bank.lay(0, i), Math.max(0, i - 2));
            run.due("image", run.bank.image(i % 2), 1);
            run.due("p28 restore", run.bank.restore((i + 1) % 2), i == 0 ? STATE : 1);
            run.due("told", run.bank.told(100), Math.max(0, i - 1));
        }
        run.endsWith(100, 125);
    }

    /** SIGHTS, BLOWN and RAIN go with the images, to and fro. */
    private static void p27AllButThePadOverAndOver() {
        ManyCallsTest run = new ManyCallsTest("p27");
        run.due("family", run.bank.family(0, 14, 60, 9), 1);
        run.due("image", run.bank.image(0), 1);
        while (run.hasRoomFor(26)) {
            run.say("A1r");
            run.due("done", run.bank.done(), 2);
            for (int sight = 1; sight <= 8; sight++) {
                run.due("seen", run.bank.seen(9, 40), sight);
            }
            run.due("image", run.bank.image(1), 1);
            run.due("p28 restore", run.bank.restore(0), 1);
            run.due("no sights", run.bank.told(6), 0);
            run.due("nothing blown", run.bank.told(13), 0);
            run.due("no rain", run.bank.told(4), 0);
            run.due("all seeds", run.bank.told(11), 60);
            run.due("p28 restore", run.bank.restore(1), 1);
            run.due("full of sights", run.bank.seen(9, 40), SeedBank.FULL);
            run.due("p22 the first that fits", run.bank.fits(0), 540);
            run.due("one blown", run.bank.told(13), 1);
            run.due("rain", run.bank.told(4), 1);
            run.due("p28 restore", run.bank.restore(0), 1);
        }
        run.endsWith(120, 0);
    }

    /** More hours than 99 are done, but each time from an image of the first. */
    private static void p28HoursComeBack() {
        ManyCallsTest run = new ManyCallsTest("p28");
        run.due("image", run.bank.image(1), 1);
        for (int times = 0; times < 3; times++) {
            for (int hour = 0; hour < 80; hour++) {
                run.done(".", 1);
            }
            run.due("hours", run.bank.told(5), 80);
            run.due("restore", run.bank.restore(1), 1);
            run.due("hours of the image", run.bank.told(5), 0);
        }
        run.endsWith(5, 0);
    }

    private static void p29EachNumberToldOverAndOver() {
        ManyCallsTest run = new ManyCallsTest("p29");
        Model model = settled(new Model());
        settled(run.bank);
        run.calls += 12;
        run.due("seen", run.bank.seen(1, 1), model.seen(1, 1));
        while (run.hasRoomFor(141)) {
            for (int what = -2; what < 138; what++) {
                run.due("told " + what, run.bank.told(what), model.told(what));
            }
        }
        run.endsWith(6, 1);
    }

    /** However often they are refused, calls change nothing. */
    private static void p29RefusedOverAndOver() {
        SeedBank refused = settled(new SeedBank());
        SeedBank asked = settled(new SeedBank());
        Checks.say(refused, "r.B");
        Checks.say(asked, "r.B");
        for (int i = 0; i < 20; i++) {
            Checks.due("refused family", refused.family(i % 6, 7 * ((i + 1) % 6), 1, 1), STATE);
            Checks.due("refused leave", refused.leave(6 + i), SeedBank.UNKNOWN);
            Checks.due("refused lay", refused.lay(i, 1000), OUTSIDE);
            Checks.due("refused set", refused.set(i % 3, 6), OUTSIDE);
            Checks.due("refused say", refused.say(i), OUTSIDE);
            Checks.due("refused judge", refused.judge(i % 3), SeedBank.NO);
            Checks.due("refused done", refused.done(), SeedBank.NO);
            Checks.due("refused seen", refused.seen(0, i), OUTSIDE);
            Checks.due("refused image", refused.image(2 + i), OUTSIDE);
            Checks.due("refused restore", refused.restore(i % 2), STATE);
            Checks.due("refused year", refused.year(i, 0, 0), OUTSIDE);
        }
        Probe.alike("refused calls", refused, asked);
    }
}
