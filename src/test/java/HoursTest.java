/** Promises 9 to 14: judge, behind, lies, total, ruined, done. */
public final class HoursTest {
    public static void main(String[] args) {
        emptyPad();
        reasons();
        reasonOrder();
        hourLimit();
        blownCounted();
        refusals();
        puffsLand();
        everyFieldTakesSeeds();
        fullToTheLast();
        coughOfOne();
        coughs();
        mowing();
        windAndRain();
        sheep();
        hourGivesBreath();
        ruin();
        doing();
        Checks.end();
    }

    private static SeedBank three() {
        SeedBank x = new SeedBank();
        x.family(0, 0, 30, 4);
        x.family(1, 3, 58, 9);
        x.family(2, 21, 4, 9);
        return x;
    }

    private static void emptyPad() {
        SeedBank x = three();
        Checks.due("p9 no act", x.judge(0), SeedBank.NONE);
        Checks.due("p9 no why", x.judge(1), SeedBank.NONE);
        Checks.due("p9 none blown", x.judge(2), 0);
        Checks.due("p10 seeds", x.behind(0, 0), 30);
        Checks.due("p10 blown", x.behind(0, 1), 0);
        Checks.due("p11 lies", x.lies(35), 0);
        Checks.due("p12 seeds", x.total(0), 92);
        Checks.due("p12 lies", x.total(1), 0);
        Checks.due("p12 lost", x.total(2), 0);
        Checks.due("p12 hours", x.total(3), 0);
        Checks.due("p13 act", x.ruined(0), SeedBank.NONE);
        Checks.due("p13 who", x.ruined(1), SeedBank.NONE);
        Checks.due("p14 acts", x.done(), 0);
    }

    private static void reasons() {
        judged("A4", SeedBank.NONE, SeedBank.NONE);
        judged("D1", 0, 1);
        judged("Dc", 0, 1);
        judged("Dm", 0, 1);
        judged("A1rA1", 2, 2);
        judged("A1rAc", 2, 2);
        judged("rAm", 1, 3);
        judged("C5", 0, 3);
        judged("C4", SeedBank.NONE, SeedBank.NONE);
        judged("CcCc", 1, 3);
        judged("C4Cc", 1, 3);
        judged("Am", 0, 3);
        judged("A5", 0, 4);
        judged("A4A1", 1, 4);
        judged("A2A2A1", 2, 4);
        judged("A3A1.A4.A5", 5, 4);
        judged("A4Ac", SeedBank.NONE, SeedBank.NONE);
        judged("AcA1", 1, 3);
        judged("rrA1", SeedBank.NONE, SeedBank.NONE);
        judged("w05rs.", SeedBank.NONE, SeedBank.NONE);
        judged("A9B9D1", 0, 4);
    }

    private static void reasonOrder() {
        judged("rD1", 1, 1);
        judged("rC9", 1, 2);
        judged("CcrCc", 2, 2);
        SeedBank x = new SeedBank();
        x.family(0, 0, 3, 2);
        Checks.say(x, "A4");
        Checks.due("p9 too few ahead of lungs", x.judge(1), 3);
        x.wipe();
        Checks.say(x, "A3");
        Checks.due("p9 lungs", x.judge(1), 4);
    }

    private static void judged(String text, int act, int why) {
        SeedBank x = three();
        Checks.say(x, text);
        Checks.due("p9 act of " + text, x.judge(0), act);
        Checks.due("p9 why of " + text, x.judge(1), why);
        if (act != SeedBank.NONE) {
            Checks.due("p9 blown of " + text, x.judge(2), SeedBank.STATE);
        }
    }

    private static void hourLimit() {
        SeedBank x = new SeedBank();
        Checks.say(x, ".".repeat(60));
        Checks.due("p12 sixty hours", x.total(3), 60);
        Checks.due("p14 sixty acts", x.done(), 60);
        Checks.say(x, ".".repeat(39));
        Checks.due("p12 hour 99", x.total(3), 99);
        Checks.due("p9 hour 99 can be", x.judge(0), SeedBank.NONE);
        x.say('.');
        Checks.due("p9 a hundredth can not", x.judge(0), 39);
        Checks.due("p9 why not", x.judge(1), 5);
        x.wipe();
        Checks.say(x, ".".repeat(39));
        x.done();
        Checks.due("p29 hours", x.told(5), 99);
        x.say('s');
        x.say('.');
        Checks.due("p9 none at hour 99", x.judge(0), 1);
        Checks.due("p9 why none at hour 99", x.judge(1), 5);
        Checks.due("p14 not done", x.done(), SeedBank.STATE);
        Checks.due("p29 hours stay", x.told(5), 99);
    }

    private static void blownCounted() {
        SeedBank x = three();
        Checks.say(x, "A4B9Bcw10.A1");
        Checks.due("p9 how many blown", x.judge(2), 4 + 58 + 1);
        Checks.due("p10 cough is no puff", x.behind(1, 1), 0);
        x = three();
        Checks.say(x, "A3B9Bc");
        Checks.due("p10 blown by A", x.behind(0, 1), 3);
        Checks.due("p10 blown by B without its cough", x.behind(1, 1), 9);
        Checks.due("p10 blown by C", x.behind(2, 1), 0);
        Checks.due("p29 now none is blown", x.told(13), 0);
    }

    private static void refusals() {
        SeedBank x = three();
        x.say('A');
        Checks.due("p9 what -1", x.judge(-1), SeedBank.OUTSIDE);
        Checks.due("p9 what 3", x.judge(3), SeedBank.OUTSIDE);
        for (int what = 0; what < 3; what++) {
            Checks.due("p9 fault " + what, x.judge(what), SeedBank.NO);
        }
        Checks.due("p10 fault", x.behind(0, 0), SeedBank.NO);
        Checks.due("p10 unknown", x.behind(3, 2), SeedBank.UNKNOWN);
        Checks.due("p10 unknown -1", x.behind(-1, 0), SeedBank.UNKNOWN);
        Checks.due("p10 unknown 6", x.behind(6, 0), SeedBank.UNKNOWN);
        Checks.due("p10 what 2", x.behind(0, 2), SeedBank.OUTSIDE);
        Checks.due("p10 what -1", x.behind(0, -1), SeedBank.OUTSIDE);
        Checks.due("p11 fault", x.lies(0), SeedBank.NO);
        Checks.due("p11 field -1", x.lies(-1), SeedBank.OUTSIDE);
        Checks.due("p11 field 36", x.lies(36), SeedBank.OUTSIDE);
        Checks.due("p12 fault", x.total(0), SeedBank.NO);
        Checks.due("p12 what -1", x.total(-1), SeedBank.OUTSIDE);
        Checks.due("p12 what 4", x.total(4), SeedBank.OUTSIDE);
        Checks.due("p13 fault", x.ruined(0), SeedBank.NO);
        Checks.due("p13 what -1", x.ruined(-1), SeedBank.OUTSIDE);
        Checks.due("p13 what 2", x.ruined(2), SeedBank.OUTSIDE);
        Checks.due("p14 fault", x.done(), SeedBank.NO);
        Checks.due("p14 the pad stays", x.told(0), 1);
        x.say('9');
        Checks.due("p10 state", x.behind(0, 0), SeedBank.STATE);
        Checks.due("p11 state", x.lies(0), SeedBank.STATE);
        Checks.due("p12 state", x.total(0), SeedBank.STATE);
        Checks.due("p12 state of hours", x.total(3), SeedBank.STATE);
        Checks.due("p13 state", x.ruined(0), SeedBank.STATE);
        Checks.due("p14 state", x.done(), SeedBank.STATE);
        x.say('!');
        Checks.due("p9 a fault is ahead of an act", x.judge(0), SeedBank.NO);
        Checks.due("p12 a fault is ahead of an act", x.total(0), SeedBank.NO);
    }

    private static void landed(String text, int field, int lies, int lost) {
        SeedBank x = new SeedBank();
        x.family(0, 14, 9, 9);
        Checks.say(x, text);
        if (field >= 0) {
            Checks.due("p11 lies " + field + " behind " + text, x.lies(field), lies);
        }
        Checks.due("p12 lies behind " + text, x.total(1), lies);
        Checks.due("p12 lost behind " + text, x.total(2), lost);
    }

    private static void puffsLand() {
        landed("A2", 20, 2, 0);
        landed("w03A2", 32, 2, 0);
        landed("w04A2", -1, 0, 2);
        landed("w13A2", 17, 2, 0);
        landed("w14A2", -1, 0, 2);
        landed("w22A2", 2, 2, 0);
        landed("w23A2", -1, 0, 2);
        landed("w32A2", 12, 2, 0);
        landed("w33A2", -1, 0, 2);
        landed("w30A2", -1, 0, 0);
        SeedBank x = three();
        x.lay(3, 998);
        Checks.say(x, "w13A4");
        Checks.due("p10 sixty at most", x.behind(1, 0), 60);
        Checks.due("p11 the rest lies, 999 at most", x.lies(3), 999);
        Checks.due("p12 above that lost", x.total(2), 1);
        Checks.due("p10 less", x.behind(0, 0), 26);
        x.lay(9, 997);
        Checks.pad(x, "w01B9");
        Checks.due("p11 a field without family", x.lies(9), 999);
        Checks.due("p12 lost above 999", x.total(2), 7);
    }

    /** A seed that comes to each FIELD from its neighbour lies there. */
    private static void everyFieldTakesSeeds() {
        for (int field = 0; field < 36; field++) {
            SeedBank x = new SeedBank();
            boolean fromWest = field % 6 > 0;
            x.family(0, fromWest ? field - 1 : field + 1, 5, 9);
            x.lay(field, 997);
            Checks.say(x, fromWest ? "w11A1A2" : "w31A1A2");
            Checks.due("p11 into " + field, x.lies(field), 999);
            Checks.due("p12 lost over " + field, x.total(2), 1);
        }
    }

    /** Exactly full, and one above. */
    private static void fullToTheLast() {
        SeedBank x = new SeedBank();
        x.family(0, 0, 9, 9);
        x.family(1, 1, 58, 9);
        x.lay(1, 998);
        Checks.say(x, "w11A2");
        Checks.due("p10 sixty", x.behind(1, 0), 60);
        Checks.due("p11 none above", x.lies(1), 998);
        Checks.say(x, "A1");
        Checks.due("p11 one above", x.lies(1), 999);
        Checks.due("p12 none lost", x.total(2), 0);
        Checks.say(x, "A1");
        Checks.due("p11 full", x.lies(1), 999);
        Checks.due("p12 one lost", x.total(2), 1);
        Checks.due("p9 four blown", x.judge(2), 4);
    }

    /** A cough needs one seed, and lungs are no matter to it. */
    private static void coughOfOne() {
        SeedBank x = new SeedBank();
        x.family(0, 0, 1, 1);
        Checks.say(x, "Ac");
        Checks.due("p9 one is enough", x.judge(0), SeedBank.NONE);
        Checks.due("p9 one blown", x.judge(2), 1);
        Checks.due("p9 no why", x.judge(1), SeedBank.NONE);
        Checks.say(x, "Ac");
        Checks.due("p9 none is not", x.judge(1), 3);
        Checks.pad(x, "Ac");
        Checks.due("p9 the why of before is gone", x.judge(1), SeedBank.NONE);
    }

    private static void coughs() {
        SeedBank x = three();
        Checks.say(x, "w13Ac");
        Checks.due("p10 all is gone", x.behind(0, 0), 0);
        Checks.due("p10 sixty", x.behind(1, 0), 60);
        Checks.due("p11 the rest", x.lies(3), 28);
        Checks.due("p9 all counted", x.judge(2), 30);
        Checks.pad(x, "w00Ac");
        Checks.due("p10 without force all come back", x.behind(0, 0), 30);
        Checks.due("p9 and are counted", x.judge(2), 30);
        Checks.due("p13 and nobody is ruined", x.ruined(0), SeedBank.NONE);
    }

    private static void mowing() {
        SeedBank x = three();
        x.lay(0, 29);
        x.lay(3, 50);
        Checks.say(x, "AmBm");
        Checks.due("p10 all of it", x.behind(0, 0), 59);
        Checks.due("p11 none left", x.lies(0), 0);
        Checks.due("p10 sixty", x.behind(1, 0), 60);
        Checks.due("p11 the rest", x.lies(3), 48);
        Checks.due("p12 seeds", x.total(0), 123);
        Checks.due("p12 lies", x.total(1), 48);
        Checks.due("p10 mowing is no blowing", x.behind(0, 1), 0);
        Checks.due("p9 mowing is no blowing", x.judge(2), 0);
        Checks.pad(x, "rBmBm");
        Checks.due("p9 one that is full mows in rain", x.judge(0), SeedBank.NONE);
        Checks.due("p11 nothing of it then", x.lies(3), 48);
    }

    private static void windAndRain() {
        SeedBank x = three();
        Checks.say(x, "w25r");
        x.done();
        Checks.due("p29 wind", x.told(2), 2);
        Checks.due("p29 force", x.told(3), 5);
        Checks.due("p29 rain", x.told(4), 1);
        Checks.say(x, "A1");
        Checks.due("p9 it rains", x.judge(1), 2);
        Checks.pad(x, "r");
        x.done();
        Checks.due("p29 no rain", x.told(4), 0);
    }

    private static void sheep() {
        SeedBank x = three();
        x.lay(0, 999);
        x.lay(1, 1);
        x.lay(35, 10);
        x.say('s');
        Checks.due("p11 half, cut, is lost", x.lies(0), 500);
        Checks.due("p11 one stays", x.lies(1), 1);
        Checks.due("p11 five", x.lies(35), 5);
        Checks.due("p12 lost", x.total(2), 499 + 5);
        Checks.due("p12 lies", x.total(1), 506);
        Checks.due("p12 seeds are not grazed", x.total(0), 92);
        x.say('s');
        Checks.due("p11 twice", x.lies(35), 3);
        Checks.due("p29 now as it was", x.told(100), 999);
    }

    private static void hourGivesBreath() {
        SeedBank x = three();
        Checks.say(x, "A4B3.");
        Checks.due("p10 blown anew", x.behind(0, 1), 0);
        Checks.due("p10 of all", x.behind(1, 1), 0);
        Checks.due("p12 one hour", x.total(3), 1);
        Checks.say(x, "A4");
        Checks.due("p9 again", x.judge(0), SeedBank.NONE);
        Checks.due("p10 blown again", x.behind(0, 1), 4);
        Checks.due("p14 five acts", x.done(), 4);
        Checks.due("p29 blown", x.told(13), 4);
        Checks.say(x, "A1");
        Checks.due("p9 blown stays in the hour", x.judge(1), 4);
    }

    private static void ruin() {
        SeedBank x = three();
        Checks.say(x, "rrC4Ac");
        Checks.due("p13 the first", x.ruined(0), 2);
        Checks.due("p13 who", x.ruined(1), 2);
        Checks.pad(x, "A1AcC4");
        Checks.due("p13 a cough", x.ruined(0), 1);
        Checks.due("p13 who coughed", x.ruined(1), 0);
        Checks.pad(x, "C3");
        Checks.due("p13 one left", x.ruined(0), SeedBank.NONE);
        Checks.due("p13 nobody", x.ruined(1), SeedBank.NONE);
        x.family(3, 30, 0, 1);
        Checks.pad(x, "s");
        Checks.due("p13 one that had none ahead", x.ruined(0), SeedBank.NONE);
    }

    private static void doing() {
        SeedBank x = three();
        x.lay(0, 5);
        Checks.say(x, "w13A4A");
        Checks.due("p14 a fault", x.done(), SeedBank.NO);
        Checks.say(x, "m");
        Checks.due("p14 three acts", x.done(), 3);
        Checks.due("p14 the pad is empty", x.told(0), 0);
        Checks.due("p14 the pad has no fault", x.fault(), SeedBank.NONE);
        Checks.due("p29 seeds", x.told(11), 31);
        Checks.due("p29 blown", x.told(13), 4);
        Checks.due("p29 seeds of B", x.told(21), 60);
        Checks.due("p29 lies", x.told(103), 2);
        Checks.due("p29 mowed", x.told(100), 0);
        Checks.due("p14 nothing more", x.done(), 0);
        Checks.say(x, "Bc");
        x.done();
        Checks.due("p29 lost", x.told(7), 60);
        Checks.due("p12 lost goes on", x.total(2), 60);
    }
}
