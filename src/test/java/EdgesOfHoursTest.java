/** The boundary cases of promises 9 to 14, a method for each sentence that names one. */
public final class EdgesOfHoursTest {
    private static final int NONE = SeedBank.NONE;

    public static void main(String[] args) {
        p09EmptyPad();
        p09Reason1();
        p09Reason2();
        p09Reason3();
        p09Reason4();
        p09Reason5();
        p09LeastOfTheReasons();
        p09TheFirstAct();
        p09HowManyWereBlown();
        p10SixtyAtMostByPuffs();
        p10SixtyAtMostByMowing();
        p10ForceZeroComesHome();
        p10BlownFrom0ToLungs();
        p10AnHourGivesBreathToAll();
        p10CoughsAreNoPuffs();
        p11EachWindAndForceFromEachField();
        p11NothingComesRoundTheEdge();
        p11LiesAt999AtMost();
        p11AboveSixtyLies();
        p11EachFieldTakesWhatIsAboveSixty();
        p11SheepTakeHalfCut();
        p11EachWindCanBeSaid();
        p12NoFamilyAndAllSix();
        p12AllThatCanLie();
        p12LostAtItsLimits();
        p12HoursFrom0To99();
        p12RainTurnsRound();
        p13NobodyIsRuined();
        p13TheFirstActAndTheLast();
        p13WhoHadNoneAhead();
        p13RuinedForAWhile();
        p13OneBehindAnother();
        p13NobodyAnyMore();
        p14NoAct();
        p14SixtyActs();
        p14NotByHalves();
        p14ThePadIsEmptyThen();
        Checks.end();
    }

    /** A alone on field 14 with 60 SEEDS and LUNGS of 9, the WIND north by 1. */
    private static SeedBank alone(int seeds, int lungs) {
        SeedBank x = new SeedBank();
        x.family(0, 14, seeds, lungs);
        return x;
    }

    private static void judged(SeedBank x, String text, long act, long why) {
        Checks.pad(x, text);
        Checks.due("p09 act of " + text, x.judge(0), act);
        Checks.due("p09 why of " + text, x.judge(1), why);
        if (act != NONE) {
            Checks.due("p09 blown of " + text, x.judge(2), SeedBank.STATE);
        }
    }

    private static void can(SeedBank x, String text, long blown) {
        judged(x, text, NONE, NONE);
        Checks.due("p09 blown of " + text, x.judge(2), blown);
    }

    private static void p09EmptyPad() {
        can(new SeedBank(), "", 0);
        can(alone(60, 9), "", 0);
    }

    private static void p09Reason1() {
        SeedBank none = new SeedBank();
        SeedBank all = new SeedBank();
        for (int f = 0; f < 6; f++) {
            all.family(f, f, 9, 9);
            all.lay(f, 1);
        }
        for (char f = 'A'; f <= 'F'; f++) {
            judged(none, f + "1", 0, 1);
            judged(none, f + "9", 0, 1);
            judged(none, f + "c", 0, 1);
            judged(none, f + "m", 0, 1);
            can(all, f + "1", 1);
            can(all, f + "9", 9);
            can(all, f + "c", 9);
            can(all, f + "m", 0);
        }
        can(none, "w05rs.", 0);
    }

    private static void p09Reason2() {
        SeedBank x = alone(60, 9);
        x.lay(14, 1);
        judged(x, "rA1", 1, 2);
        judged(x, "rAc", 1, 2);
        can(x, "rAm", 0);
        can(x, "rrA1", 1);
        can(x, "rw35s.", 0);
        x.set(2, 1);
        judged(x, "A1", 0, 2);
        judged(x, "Ac", 0, 2);
        can(x, "Am", 0);
        can(x, "rA1", 1);
        can(x, "rAc", 60);
    }

    private static void p09Reason3() {
        for (int many = 1; many <= 9; many++) {
            can(alone(many, 9), "A" + many, many);
            judged(alone(many - 1, 9), "A" + many, 0, 3);
        }
        can(alone(1, 1), "Ac", 1);
        judged(alone(0, 1), "Ac", 0, 3);
        judged(alone(60, 1), "AcAc", 1, 3);
        SeedBank x = alone(60, 1);
        judged(x, "Am", 0, 3);
        x.lay(14, 1);
        can(x, "Am", 0);
        SeedBank y = alone(59, 1);
        y.lay(14, 1);
        judged(y, "AmAm", 1, 3);
        y.lay(14, 2);
        can(y, "AmAmAm", 0);
    }

    private static void p09Reason4() {
        for (int lungs = 1; lungs <= 9; lungs++) {
            can(alone(60, lungs), "A" + lungs, lungs);
            can(alone(60, lungs), "A1".repeat(lungs), lungs);
            judged(alone(60, lungs), "A1".repeat(lungs + 1), lungs, 4);
            judged(alone(60, lungs), "A" + lungs + "A1", 1, 4);
            if (lungs < 9) {
                judged(alone(60, lungs), "A" + (lungs + 1), 0, 4);
            }
            can(alone(60, lungs), "A" + lungs + ".A" + lungs, 2 * lungs);
            can(alone(60, lungs), "A" + lungs + "Ac", 60);
        }
        SeedBank x = alone(60, 9);
        Checks.pad(x, "A9");
        x.done();
        judged(x, "A1", 0, 4);
        can(x, ".A9", 9);
    }

    private static SeedBank atHour(int hour) {
        SeedBank x = alone(60, 9);
        for (int h = 0; h < hour; h++) {
            if (x.say('.') == 60) {
                x.done();
            }
        }
        x.done();
        return x;
    }

    private static void p09Reason5() {
        can(atHour(98), ".", 0);
        judged(atHour(98), "..", 1, 5);
        judged(atHour(99), ".", 0, 5);
        judged(atHour(99), "A9sw00r.", 4, 5);
        can(atHour(99), "A9sw00r", 9);
        can(atHour(39), ".".repeat(60), 0);
        judged(atHour(40), ".".repeat(60), 59, 5);
    }

    private static void p09LeastOfTheReasons() {
        SeedBank x = alone(3, 2);
        judged(x, "rB1", 1, 1);
        judged(x, "rBc", 1, 1);
        judged(x, "B9", 0, 1);
        judged(x, "Bm", 0, 1);
        judged(x, "rA4", 1, 2);
        judged(x, "rA3", 1, 2);
        judged(x, "AcrAc", 2, 2);
        judged(x, "AcrA1", 2, 2);
        judged(x, "A4", 0, 3);
        judged(x, "A2A2", 1, 3);
        judged(x, "A3", 0, 4);
        judged(x, "rAm", 1, 3);
        judged(x, "A2A1", 1, 4);
        judged(x, "A2AcA1", 2, 3);
    }

    private static void p09TheFirstAct() {
        SeedBank x = alone(60, 9);
        judged(x, "B1C1", 0, 1);
        judged(x, ".".repeat(58) + "B1", 58, 1);
        judged(x, ".".repeat(40) + "Am" + "B1".repeat(9), 40, 3);
        judged(x, "w00".repeat(19) + ".Bc", 20, 1);
    }

    private static void p09HowManyWereBlown() {
        SeedBank x = alone(60, 9);
        can(x, "s.rr", 0);
        can(x, "A1", 1);
        x.set(1, 0);
        can(x, "Ac".repeat(30), 30 * 60);
        can(x, "A9." + "Ac" + "A9", 9 + 60 + 9);
    }

    private static void p10SixtyAtMostByPuffs() {
        comes(51, 9, 0, 60, 0, 0);
        comes(50, 9, 0, 59, 0, 0);
        comes(52, 9, 0, 60, 1, 0);
        comes(60, 1, 0, 60, 1, 0);
        comes(60, 9, 0, 60, 9, 0);
        comes(0, 1, 0, 1, 0, 0);
        comes(51, 9, 999, 60, 999, 0);
        comes(52, 9, 998, 60, 999, 0);
        comes(52, 9, 999, 60, 999, 1);
        comes(60, 9, 990, 60, 999, 0);
        comes(60, 9, 991, 60, 999, 1);
        comes(60, 9, 999, 60, 999, 9);
    }

    /** A puff from A onto B, who has so many, where so many lie. */
    private static void comes(int has, int many, int lay, int seeds, int lies, int lost) {
        SeedBank x = new SeedBank();
        x.family(0, 0, 9, 9);
        x.family(1, 6, has, 9);
        x.lay(6, lay);
        Checks.pad(x, "A" + many);
        String call = "p10 " + many + " onto " + has + " and " + lay;
        Checks.due(call + " seeds", x.behind(1, 0), seeds);
        Checks.due(call + " lies", x.lies(6), lies);
        Checks.due(call + " lost", x.total(2), lost);
        Checks.due(call + " left", x.behind(0, 0), 9 - many);
    }

    private static void p10SixtyAtMostByMowing() {
        mows(60, 1, 60, 1);
        mows(60, 999, 60, 999);
        mows(59, 1, 60, 0);
        mows(59, 2, 60, 1);
        mows(58, 1, 59, 0);
        mows(0, 1, 1, 0);
        mows(0, 60, 60, 0);
        mows(0, 61, 60, 1);
        mows(0, 999, 60, 939);
    }

    private static void mows(int has, int lay, int seeds, int lies) {
        SeedBank x = alone(has, 1);
        x.lay(14, lay);
        Checks.pad(x, "Am");
        String call = "p10 mows " + lay + " to " + has;
        Checks.due(call + " seeds", x.behind(0, 0), seeds);
        Checks.due(call + " lies", x.lies(14), lies);
        Checks.due(call + " lost", x.total(2), 0);
        Checks.due(call + " blown", x.behind(0, 1), 0);
    }

    private static void p10ForceZeroComesHome() {
        for (int wind = 0; wind < 4; wind++) {
            SeedBank x = alone(60, 9);
            x.lay(14, 999);
            x.set(0, wind);
            x.set(1, 0);
            Checks.pad(x, "A9Ac");
            Checks.due("p10 home by " + wind, x.behind(0, 0), 60);
            Checks.due("p10 blown all the same by " + wind, x.behind(0, 1), 9);
            Checks.due("p11 lies as it did by " + wind, x.lies(14), 999);
            Checks.due("p12 none lost by " + wind, x.total(2), 0);
            Checks.due("p09 counted by " + wind, x.judge(2), 69);
        }
    }

    private static void p10BlownFrom0ToLungs() {
        SeedBank x = alone(60, 9);
        Checks.due("p10 blown at first", x.behind(0, 1), 0);
        for (int i = 1; i <= 9; i++) {
            Checks.say(x, "A1");
            Checks.due("p10 blown " + i, x.behind(0, 1), i);
            Checks.due("p10 seeds " + i, x.behind(0, 0), 60 - i);
        }
        Checks.say(x, "A1");
        Checks.due("p10 above lungs", x.behind(0, 1), SeedBank.STATE);
    }

    private static void p10AnHourGivesBreathToAll() {
        SeedBank x = new SeedBank();
        for (int f = 0; f < 6; f++) {
            x.family(f, 30 + f, 60, f + 1);
        }
        String puffs = "A1B2C3D4E5F6";
        Checks.pad(x, puffs);
        for (int f = 0; f < 6; f++) {
            Checks.due("p10 blown of " + f, x.behind(f, 1), f + 1);
        }
        Checks.say(x, ".");
        for (int f = 0; f < 6; f++) {
            Checks.due("p10 blown anew of " + f, x.behind(f, 1), 0);
        }
        Checks.say(x, puffs);
        Checks.due("p09 all can again", x.judge(0), NONE);
        Checks.due("p12 all is lost", x.total(2), 42);
    }

    private static void p10CoughsAreNoPuffs() {
        SeedBank x = alone(60, 1);
        Checks.pad(x, "Ac");
        Checks.due("p10 no seeds", x.behind(0, 0), 0);
        Checks.due("p10 none blown by puffs", x.behind(0, 1), 0);
        Checks.due("p09 but sixty blown", x.judge(2), 60);
        Checks.pad(x, "A1Ac");
        Checks.due("p10 one by a puff", x.behind(0, 1), 1);
        Checks.due("p09 sixty by both", x.judge(2), 60);
    }

    private static void p11EachWindAndForceFromEachField() {
        int[] north = {1, 0, -1, 0};
        int[] east = {0, 1, 0, -1};
        for (int field = 0; field < 36; field++) {
            for (int way = 0; way < 24; way++) {
                int y = field / 6 + north[way / 6] * (way % 6);
                int x = field % 6 + east[way / 6] * (way % 6);
                boolean inside = y >= 0 && y <= 5 && x >= 0 && x <= 5;
                goes(field, way / 6, way % 6, inside ? 6 * y + x : -1);
            }
        }
    }

    private static void goes(int from, int wind, int force, int to) {
        SeedBank x = new SeedBank();
        x.family(4, from, 60, 9);
        Checks.say(x, "w" + wind + force + "E7");
        String call = "p11 from " + from + " by w" + wind + force;
        boolean home = to == from;
        Checks.due(call + " left", x.behind(4, 0), home ? 60 : 53);
        Checks.due(call + " lost", x.total(2), to < 0 ? 7 : 0);
        Checks.due(call + " lies", x.total(1), to < 0 || home ? 0 : 7);
        if (to >= 0) {
            Checks.due(call + " lies there", x.lies(to), home ? 0 : 7);
        }
    }

    private static void p11NothingComesRoundTheEdge() {
        int[] fields = {5, 6, 0, 35, 30, 29};
        String[] acts = {"w11Ac", "w31Ac", "w21Ac", "w01Ac", "w31Ac", "w11Ac"};
        for (int i = 0; i < fields.length; i++) {
            SeedBank x = new SeedBank();
            x.family(0, fields[i], 60, 9);
            Checks.say(x, acts[i]);
            Checks.due("p11 from " + fields[i] + " lies", x.total(1), 0);
            Checks.due("p11 from " + fields[i] + " lost", x.total(2), 60);
        }
    }

    private static void p11LiesAt999AtMost() {
        for (int lay = 990; lay <= 999; lay++) {
            for (int many = 1; many <= 9; many++) {
                SeedBank x = alone(60, 9);
                x.lay(20, lay);
                Checks.say(x, "A" + many);
                String call = "p11 " + many + " onto " + lay;
                Checks.due(call, x.lies(20), Math.min(999, lay + many));
                Checks.due(call + " lost", x.total(2), Math.max(0, lay + many - 999));
            }
        }
        SeedBank x = alone(60, 9);
        x.lay(20, 939);
        Checks.pad(x, "Ac");
        Checks.due("p11 sixty onto 939", x.lies(20), 999);
        Checks.due("p11 none of it is lost", x.total(2), 0);
        x.lay(20, 940);
        Checks.due("p11 sixty onto 940", x.lies(20), 999);
        Checks.due("p11 one of it is lost", x.total(2), 1);
    }

    private static void p11AboveSixtyLies() {
        SeedBank x = new SeedBank();
        x.family(0, 0, 60, 9);
        x.family(1, 1, 60, 9);
        x.lay(1, 939);
        Checks.pad(x, "w11Ac");
        Checks.due("p11 a cough onto a full globe lies", x.lies(1), 999);
        Checks.due("p12 none of it is lost", x.total(2), 0);
        x.lay(1, 940);
        Checks.due("p11 999 at most", x.lies(1), 999);
        Checks.due("p12 one is lost", x.total(2), 1);
        Checks.due("p10 sixty all the time", x.behind(1, 0), 60);
        x.family(1, 1, 0, 9);
        Checks.due("p10 all are its seeds", x.behind(1, 0), 60);
        Checks.due("p11 none lies above", x.lies(1), 940);
    }

    private static void p11EachFieldTakesWhatIsAboveSixty() {
        for (int field = 0; field < 36; field++) {
            SeedBank x = new SeedBank();
            boolean fromSouth = field >= 6;
            x.family(0, fromSouth ? field - 6 : field + 6, 9, 9);
            x.family(5, field, 59, 1);
            Checks.say(x, fromSouth ? "w01A3" : "w21A3");
            Checks.due("p11 above sixty in " + field, x.lies(field), 2);
            Checks.due("p10 sixty in " + field, x.behind(5, 0), 60);
        }
    }

    private static void p11SheepTakeHalfCut() {
        int[] lay = {0, 1, 2, 3, 4, 5, 998, 999};
        int[] stay = {0, 1, 1, 2, 2, 3, 499, 500};
        for (int i = 0; i < lay.length; i++) {
            for (int field = 0; field < 36; field += 7) {
                SeedBank x = new SeedBank();
                x.family(0, field, 60, 9);
                x.lay(field, lay[i]);
                Checks.say(x, "s");
                Checks.due("p11 sheep of " + lay[i], x.lies(field), stay[i]);
                Checks.due("p12 lost of " + lay[i], x.total(2), lay[i] - stay[i]);
                Checks.due("p10 seeds are not eaten", x.behind(0, 0), 60);
            }
        }
        SeedBank x = new SeedBank();
        x.lay(35, 999);
        Checks.say(x, "s".repeat(10));
        Checks.due("p11 the last one stays", x.lies(35), 1);
        Checks.say(x, "s".repeat(50));
        Checks.due("p11 it stays for good", x.lies(35), 1);
        Checks.due("p12 all but one is lost", x.total(2), 998);
    }

    private static void p11EachWindCanBeSaid() {
        for (int wind = 0; wind < 4; wind++) {
            for (int force = 0; force < 6; force++) {
                SeedBank x = new SeedBank();
                x.set(0, 3 - wind);
                x.set(1, 5 - force);
                Checks.say(x, "w" + wind + force);
                Checks.due("p14 w" + wind + force, x.done(), 1);
                Checks.due("p29 wind " + wind, x.told(2), wind);
                Checks.due("p29 force " + force, x.told(3), force);
            }
        }
    }

    private static void totals(SeedBank x, long seeds, long lies, long lost, long hours) {
        Checks.due("p12 seeds", x.total(0), seeds);
        Checks.due("p12 lies", x.total(1), lies);
        Checks.due("p12 lost", x.total(2), lost);
        Checks.due("p12 hours", x.total(3), hours);
    }

    private static void p12NoFamilyAndAllSix() {
        SeedBank x = new SeedBank();
        totals(x, 0, 0, 0, 0);
        for (int f = 0; f < 6; f++) {
            x.family(f, 5 * f, 60, 9);
            totals(x, 60 * (f + 1), 0, 0, 0);
        }
        Checks.say(x, "w05");
        Checks.say(x, "AcBcCcDcEcFc");
        totals(x, 0, 120, 240, 0);
        Checks.due("p09 all are blown", x.judge(2), 360);
    }

    private static SeedBank full() {
        SeedBank x = new SeedBank();
        for (int field = 0; field < 36; field++) {
            x.lay(field, 999);
        }
        for (int f = 0; f < 6; f++) {
            x.family(f, f, 60, 9);
        }
        return x;
    }

    private static void p12AllThatCanLie() {
        SeedBank x = full();
        totals(x, 360, 36 * 999, 0, 0);
        Checks.say(x, "Ac");
        totals(x, 300, 36 * 999, 60, 0);
        Checks.say(x, "Am");
        totals(x, 360, 36 * 999 - 60, 60, 0);
        Checks.say(x, "s");
        totals(x, 360, 35 * 500 + 470, 60 + 35 * 499 + 469, 0);
    }

    /** LOST has no limit: nine meadows full of seeds, eaten to the last, are counted on. */
    private static void p12LostAtItsLimits() {
        SeedBank x = new SeedBank();
        for (int times = 1; times <= 9; times++) {
            for (int field = 0; field < 36; field++) {
                x.lay(field, 999);
            }
            Checks.say(x, "ssssssssss");
            Checks.due("p12 lost by " + times, x.total(2), 36 * 998 * times);
            x.done();
            Checks.due("p29 lost by " + times, x.told(7), 36 * 998 * times);
        }
    }

    private static void p12HoursFrom0To99() {
        SeedBank x = atHour(0);
        Checks.due("p12 hour 0", x.total(3), 0);
        x = atHour(39);
        Checks.say(x, ".".repeat(60));
        Checks.due("p12 hour 99", x.total(3), 99);
        x = atHour(40);
        Checks.say(x, ".".repeat(60));
        Checks.due("p12 no hour 100", x.total(3), SeedBank.STATE);
        Checks.due("p29 still hour 40", x.told(5), 40);
        x = atHour(99);
        Checks.due("p12 hour 99 stays", x.total(3), 99);
        Checks.due("p29 hour 99 stays", x.told(5), 99);
    }

    private static void p12RainTurnsRound() {
        for (int times = 58; times <= 60; times++) {
            SeedBank x = new SeedBank();
            Checks.say(x, "r".repeat(times));
            Checks.due("p14 rains " + times, x.done(), times);
            Checks.due("p29 rain by " + times, x.told(4), times % 2);
        }
    }

    private static void ruin(SeedBank x, String text, long act, long who) {
        Checks.pad(x, text);
        Checks.due("p13 act of " + text, x.ruined(0), act);
        Checks.due("p13 who of " + text, x.ruined(1), who);
    }

    private static void p13NobodyIsRuined() {
        ruin(new SeedBank(), "", NONE, NONE);
        ruin(new SeedBank(), "w05rs.", NONE, NONE);
        ruin(full(), "", NONE, NONE);
        ruin(alone(2, 9), "A1", NONE, NONE);
        SeedBank x = alone(1, 1);
        x.set(1, 0);
        ruin(x, "A1", NONE, NONE);
        ruin(x, "Ac", NONE, NONE);
    }

    private static void p13TheFirstActAndTheLast() {
        ruin(alone(1, 1), "A1", 0, 0);
        ruin(alone(60, 1), "Ac", 0, 0);
        ruin(alone(9, 9), "A9", 0, 0);
        ruin(alone(9, 9), "A8A1", 1, 0);
        SeedBank x = new SeedBank();
        x.family(5, 35, 1, 1);
        ruin(x, "s".repeat(58) + "Fc", 58, 5);
        ruin(x, "s".repeat(58) + "F1", 58, 5);
    }

    private static void p13WhoHadNoneAhead() {
        SeedBank x = alone(0, 1);
        ruin(x, "s.rr", NONE, NONE);
        x.family(5, 21, 3, 3);
        ruin(x, "F3", 0, 5);
        x.lay(14, 1);
        ruin(x, "AmFcAc", 1, 5);
        ruin(x, "AmAcFc", 1, 0);
    }

    /** Who has seeds again later was ruined all the same. */
    private static void p13RuinedForAWhile() {
        SeedBank x = alone(5, 9);
        x.lay(14, 9);
        ruin(x, "AcAm", 0, 0);
        Checks.due("p10 it has some again", x.behind(0, 0), 9);
        ruin(x, ".AcAmAc", 1, 0);
        SeedBank y = new SeedBank();
        y.family(0, 0, 1, 9);
        y.family(1, 6, 1, 9);
        ruin(y, "BcA1", 0, 1);
        ruin(y, "AcBcB1", SeedBank.STATE, SeedBank.STATE);
    }

    private static void p13OneBehindAnother() {
        SeedBank x = new SeedBank();
        for (int f = 0; f < 6; f++) {
            x.family(f, 30 + f, 1 + f, 9);
        }
        ruin(x, "FcEcDcCcBcAc", 0, 5);
        ruin(x, "AcBcCcDcEcFc", 0, 0);
        ruin(x, "F5E4F1A1", 2, 5);
    }

    /** What was so of a longer PAD is not so of the next. */
    private static void p13NobodyAnyMore() {
        SeedBank x = alone(9, 9);
        ruin(x, "Ac", 0, 0);
        ruin(x, "", NONE, NONE);
        ruin(x, "s.Ac", 2, 0);
        ruin(x, "A1", NONE, NONE);
    }

    private static void p14NoAct() {
        SeedBank x = full();
        long[] before = Probe.allButSigns(x);
        Checks.due("p14 no act", x.done(), 0);
        long[] behind = Probe.allButSigns(x);
        for (int i = 0; i < before.length; i++) {
            Checks.due("p14 no act changes " + i, behind[i], before[i]);
        }
    }

    private static void p14SixtyActs() {
        SeedBank x = new SeedBank();
        Checks.say(x, "s".repeat(60));
        Checks.due("p14 sixty of one sign", x.done(), 60);
        Checks.say(x, "w00".repeat(20));
        Checks.due("p14 twenty of three", x.done(), 20);
        x.family(0, 0, 60, 9);
        x.set(1, 0);
        Checks.say(x, "Ac".repeat(30));
        Checks.due("p14 thirty of two", x.done(), 30);
        Checks.say(x, "r");
        Checks.due("p14 one", x.done(), 1);
    }

    private static void p14NotByHalves() {
        SeedBank x = alone(9, 9);
        Checks.say(x, "A1w35r.A1");
        Checks.due("p14 the last can not be", x.done(), SeedBank.STATE);
        Checks.due("p14 the pad stays", x.told(0), 9);
        Checks.due("p14 seeds stay", x.told(11), 9);
        Checks.due("p14 blown stays", x.told(13), 0);
        Checks.due("p14 wind stays", x.told(2), 0);
        Checks.due("p14 force stays", x.told(3), 1);
        Checks.due("p14 rain stays", x.told(4), 0);
        Checks.due("p14 hours stay", x.told(5), 0);
        Checks.due("p14 none lies", x.told(120), 0);
        Checks.due("p14 the act", x.judge(0), 4);
        x.say('A');
        Checks.due("p14 more must come", x.done(), SeedBank.NO);
        Checks.due("p14 the longer pad stays", x.told(0), 10);
    }

    private static void p14ThePadIsEmptyThen() {
        SeedBank x = alone(9, 9);
        Checks.say(x, "A1");
        Checks.due("p14 one act", x.done(), 1);
        Checks.due("p14 no signs", x.told(0), 0);
        Checks.due("p14 nothing to wipe", x.wipe(), 0);
        Checks.due("p14 no act more", x.done(), 0);
        Checks.due("p14 seeds", x.told(11), 8);
        Checks.due("p14 it is done once", x.told(120), 1);
        Checks.say(x, "1");
        Checks.due("p14 a new beginning", x.fault(), 0);
    }
}
