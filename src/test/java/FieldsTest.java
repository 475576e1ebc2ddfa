/** Promises 1 to 8: a new object, family, leave, lay, set, say, wipe, fault. */
public final class FieldsTest {
    public static void main(String[] args) {
        newObject();
        families();
        familyRefusals();
        familyAnew();
        leaving();
        laying();
        setting();
        saying();
        wiping();
        faults();
        Checks.end();
    }

    private static void newObject() {
        SeedBank x = new SeedBank();
        Checks.due("p1 signs", x.told(0), 0);
        Checks.due("p1 families", x.told(1), 0);
        Checks.due("p1 wind", x.told(2), 0);
        Checks.due("p1 force", x.told(3), 1);
        Checks.due("p1 rain", x.told(4), 0);
        Checks.due("p1 hours", x.told(5), 0);
        Checks.due("p1 sights", x.told(6), 0);
        Checks.due("p1 lost", x.told(7), 0);
        for (int field = 0; field < 36; field++) {
            Checks.due("p1 lies " + field, x.told(100 + field), 0);
        }
        for (int f = 0; f < 6; f++) {
            Checks.due("p1 leave " + f, x.leave(f), SeedBank.UNKNOWN);
        }
        Checks.due("p1 fault", x.fault(), SeedBank.NONE);
        Checks.due("p1 restore 0", x.restore(0), SeedBank.STATE);
        Checks.due("p1 restore 1", x.restore(1), SeedBank.STATE);
    }

    private static void families() {
        SeedBank x = new SeedBank();
        Checks.due("p2 first", x.family(5, 35, 60, 9), 1);
        Checks.due("p2 second", x.family(0, 0, 0, 1), 2);
        Checks.due("p2 third", x.family(3, 7, 1, 2), 3);
        Checks.due("p2 fourth", x.family(1, 8, 1, 2), 4);
        Checks.due("p2 fifth", x.family(2, 9, 1, 2), 5);
        Checks.due("p2 sixth", x.family(4, 10, 1, 2), 6);
        Checks.due("p2 bits", x.told(1), 63);
        Checks.due("p2 field", x.told(60), 35);
        Checks.due("p2 seeds", x.told(61), 60);
        Checks.due("p2 lungs", x.told(62), 9);
        Checks.due("p2 blown", x.told(63), 0);
        Checks.due("p2 field of D", x.told(40), 7);
        Checks.due("p2 lungs of D", x.told(42), 2);
    }

    private static void familyRefusals() {
        SeedBank x = new SeedBank();
        x.family(0, 3, 10, 4);
        Checks.due("p2 number -1", x.family(-1, 3, 10, 4), SeedBank.UNKNOWN);
        Checks.due("p2 number 6", x.family(6, 4, 10, 4), SeedBank.UNKNOWN);
        Checks.due("p2 number ahead of all", x.family(6, 99, 99, 99), SeedBank.UNKNOWN);
        Checks.due("p2 field -1", x.family(1, -1, 10, 4), SeedBank.OUTSIDE);
        Checks.due("p2 field 36", x.family(1, 36, 10, 4), SeedBank.OUTSIDE);
        Checks.due("p2 seeds -1", x.family(1, 4, -1, 4), SeedBank.OUTSIDE);
        Checks.due("p2 seeds 61", x.family(1, 4, 61, 4), SeedBank.OUTSIDE);
        Checks.due("p2 lungs 0", x.family(1, 4, 10, 0), SeedBank.OUTSIDE);
        Checks.due("p2 lungs 10", x.family(1, 4, 10, 10), SeedBank.OUTSIDE);
        Checks.due("p2 outside ahead of state", x.family(1, 3, 61, 4), SeedBank.OUTSIDE);
        Checks.due("p2 state", x.family(1, 3, 10, 4), SeedBank.STATE);
        Checks.due("p2 nothing changed", x.told(1), 1);
        Checks.due("p2 host kept", x.told(11), 10);
        Checks.due("p2 state of one that is", x.family(1, 4, 5, 4), 2);
        Checks.due("p2 move onto another", x.family(1, 3, 7, 7), SeedBank.STATE);
        Checks.due("p2 not moved", x.told(20), 4);
        Checks.due("p2 seeds kept", x.told(21), 5);
        Checks.due("p2 huge", x.family(Integer.MAX_VALUE, 0, 0, 1), SeedBank.UNKNOWN);
        Checks.due("p2 least", x.family(0, Integer.MIN_VALUE, 0, 1), SeedBank.OUTSIDE);
    }

    private static void familyAnew() {
        SeedBank x = new SeedBank();
        x.family(0, 3, 10, 4);
        x.lay(5, 7);
        Checks.say(x, "A2");
        x.done();
        Checks.due("p2 blown ahead", x.told(13), 2);
        Checks.due("p2 anew on its own field", x.family(0, 3, 20, 5), 1);
        Checks.due("p2 blown anew", x.told(13), 0);
        Checks.due("p2 seeds anew", x.told(11), 20);
        Checks.due("p2 lungs anew", x.told(12), 5);
        Checks.due("p2 anew elsewhere", x.family(0, 5, 30, 6), 1);
        Checks.due("p2 elsewhere", x.told(10), 5);
        Checks.due("p2 what lies there still lies", x.told(105), 7);
        Checks.due("p2 seeds of before are no more", x.told(103), 0);
        Checks.due("p2 seeds of before are not lost", x.told(7), 0);
        Checks.due("p2 the field of before is free", x.family(1, 3, 1, 1), 2);
    }

    private static void leaving() {
        SeedBank x = new SeedBank();
        x.family(0, 3, 10, 4);
        x.family(1, 4, 60, 4);
        x.lay(4, 940);
        Checks.due("p3 number -1", x.leave(-1), SeedBank.UNKNOWN);
        Checks.due("p3 number 6", x.leave(6), SeedBank.UNKNOWN);
        Checks.due("p3 not there", x.leave(2), SeedBank.UNKNOWN);
        Checks.due("p3 first", x.leave(0), 1);
        Checks.due("p3 its seeds lie", x.told(103), 10);
        Checks.due("p3 none lost", x.told(7), 0);
        Checks.due("p3 second", x.leave(1), 0);
        Checks.due("p3 999 at most", x.told(104), 999);
        Checks.due("p3 what is above is lost", x.told(7), 1);
        Checks.due("p3 twice", x.leave(1), SeedBank.UNKNOWN);
        Checks.due("p3 told", x.told(20), SeedBank.OUTSIDE);
        Checks.due("p3 bits", x.told(1), 0);
        Checks.due("p3 again", x.family(1, 4, 0, 1), 1);
        Checks.due("p3 again seeds", x.told(21), 0);
    }

    private static void laying() {
        SeedBank x = new SeedBank();
        Checks.due("p4 first", x.lay(0, 999), 0);
        Checks.due("p4 second", x.lay(0, 5), 999);
        Checks.due("p4 third", x.lay(0, 0), 5);
        Checks.due("p4 last field", x.lay(35, 1), 0);
        Checks.due("p4 told", x.told(135), 1);
        Checks.due("p4 field -1", x.lay(-1, 1), SeedBank.OUTSIDE);
        Checks.due("p4 field 36", x.lay(36, 1), SeedBank.OUTSIDE);
        Checks.due("p4 seeds -1", x.lay(1, -1), SeedBank.OUTSIDE);
        Checks.due("p4 seeds 1000", x.lay(1, 1000), SeedBank.OUTSIDE);
        Checks.due("p4 unchanged", x.told(101), 0);
        Checks.due("p4 not lost", x.told(7), 0);
    }

    private static void setting() {
        SeedBank x = new SeedBank();
        Checks.due("p5 wind", x.set(0, 3), 0);
        Checks.due("p5 wind again", x.set(0, 1), 3);
        Checks.due("p5 force", x.set(1, 5), 1);
        Checks.due("p5 force again", x.set(1, 0), 5);
        Checks.due("p5 rain", x.set(2, 1), 0);
        Checks.due("p5 rain again", x.set(2, 1), 1);
        Checks.due("p5 wind 4", x.set(0, 4), SeedBank.OUTSIDE);
        Checks.due("p5 wind -1", x.set(0, -1), SeedBank.OUTSIDE);
        Checks.due("p5 force 6", x.set(1, 6), SeedBank.OUTSIDE);
        Checks.due("p5 force -1", x.set(1, -1), SeedBank.OUTSIDE);
        Checks.due("p5 rain 2", x.set(2, 2), SeedBank.OUTSIDE);
        Checks.due("p5 rain -1", x.set(2, -1), SeedBank.OUTSIDE);
        Checks.due("p5 which 3", x.set(3, 0), SeedBank.OUTSIDE);
        Checks.due("p5 which -1", x.set(-1, 0), SeedBank.OUTSIDE);
        Checks.due("p5 told wind", x.told(2), 1);
        Checks.due("p5 wind back to 0", x.set(0, 0), 1);
        Checks.due("p5 wind was 0", x.set(0, 1), 0);
        Checks.due("p5 rain back to 0", x.set(2, 0), 1);
        Checks.due("p5 rain was 0", x.set(2, 1), 0);
        Checks.due("p5 told force", x.told(3), 0);
        Checks.due("p5 told rain", x.told(4), 1);
    }

    private static void saying() {
        SeedBank x = new SeedBank();
        Checks.due("p6 32", x.say(32), SeedBank.OUTSIDE);
        Checks.due("p6 127", x.say(127), SeedBank.OUTSIDE);
        Checks.due("p6 -1", x.say(-1), SeedBank.OUTSIDE);
        Checks.due("p6 33", x.say(33), 1);
        Checks.due("p6 126", x.say(126), 2);
        for (int i = 3; i <= 60; i++) {
            Checks.due("p6 sign " + i, x.say('r'), i);
        }
        Checks.due("p6 full", x.say('r'), SeedBank.FULL);
        Checks.due("p6 outside ahead of full", x.say(200), SeedBank.OUTSIDE);
        Checks.due("p6 told", x.told(0), 60);
        Checks.due("p6 the fault stays", x.fault(), 0);
    }

    private static void wiping() {
        SeedBank x = new SeedBank();
        Checks.due("p7 empty", x.wipe(), 0);
        Checks.say(x, "rsA!");
        Checks.due("p7 four", x.wipe(), 4);
        Checks.due("p7 none left", x.told(0), 0);
        Checks.due("p7 no fault left", x.fault(), SeedBank.NONE);
        Checks.due("p7 say again", x.say('s'), 1);
        Checks.due("p7 acts of before are gone", x.done(), 1);
        x.family(0, 0, 5, 5);
        Checks.say(x, "A");
        x.wipe();
        Checks.say(x, "1");
        Checks.due("p7 half an act of before is gone", x.fault(), 0);
    }

    private static void faults() {
        SeedBank x = new SeedBank();
        for (char letter = 'A'; letter <= 'F'; letter++) {
            faultOf("" + letter, 1);
            faultOf(letter + "1", SeedBank.NONE);
            faultOf(letter + "9", SeedBank.NONE);
            faultOf(letter + "c", SeedBank.NONE);
            faultOf(letter + "m", SeedBank.NONE);
            faultOf(letter + "0", 1);
            faultOf(letter + ":", 1);
            faultOf(letter + "C", 1);
            faultOf(letter + "r", 1);
            faultOf("" + letter + letter, 1);
        }
        faultOf("", SeedBank.NONE);
        faultOf("G1", 0);
        faultOf("@1", 0);
        faultOf("a1", 0);
        faultOf("1", 0);
        faultOf("c", 0);
        faultOf("m", 0);
        faultOf("R", 0);
        faultOf("S", 0);
        faultOf("W11", 0);
        faultOf("w", 1);
        faultOf("w0", 2);
        faultOf("w3", 2);
        faultOf("w4", 1);
        faultOf("w/", 1);
        faultOf("wr", 1);
        faultOf("w00", SeedBank.NONE);
        faultOf("w35", SeedBank.NONE);
        faultOf("w36", 2);
        faultOf("w3/", 2);
        faultOf("w250", 3);
        faultOf("A12", 2);
        faultOf("rs.A1w25BcCm", SeedBank.NONE);
        faultOf("rs.A1w25BcC", 11);
        faultOf("rs.A1w25BxCm", 9);
        faultOf("!!!", 0);
        faultOf("r!r!A", 1);
        String full = "A1".repeat(29) + "r";
        faultOf(full + "w", 60);
        x.wipe();
        for (int i = 0; i < 60; i++) {
            x.say('.');
        }
        Checks.due("p8 sixty acts", x.fault(), SeedBank.NONE);
        x.say('!');
        Checks.due("p8 a sign too many has no fault", x.fault(), SeedBank.NONE);
    }

    private static void faultOf(String text, int want) {
        SeedBank x = new SeedBank();
        Checks.say(x, text);
        Checks.due("p8 fault of " + text, x.fault(), want);
    }
}
