/** What the tests share: counting wrong answers and saying texts. */
final class Checks {
    private static int checked = 0;
    private static int wrong = 0;

    private Checks() {
    }

    static void due(String call, long got, long want) {
        checked++;
        if (got != want) {
            wrong++;
            System.out.println(call + " answered " + got + ", due is " + want);
        }
    }

    static void holds(String what, boolean so) {
        checked++;
        if (!so) {
            wrong++;
            System.out.println(what + " does not hold");
        }
    }

    static void say(SeedBank bank, String text) {
        for (int i = 0; i < text.length(); i++) {
            bank.say(text.charAt(i));
        }
    }

    /** The PAD anew with a text. */
    static void pad(SeedBank bank, String text) {
        bank.wipe();
        say(bank, text);
    }

    static void end() {
        System.out.println(checked + " answers checked, " + wrong + " wrong");
        if (wrong != 0 || checked == 0) {
            System.exit(1);
        }
    }
}
