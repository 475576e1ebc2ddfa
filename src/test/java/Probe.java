import java.util.ArrayList;
import java.util.List;

/**
 * What a bank answers to all that can be asked of it, in some 240 calls, so that two banks can be
 * held against each other. It ends with calls that change: the bank is used up by it.
 */
final class Probe {
    private final SeedBank bank;
    private final List<String> calls = new ArrayList<>();
    private final List<Long> answers = new ArrayList<>();

    private Probe(SeedBank bank) {
        this.bank = bank;
        askState();
        askHours();
        askMeadow();
        askBreaths();
        askWhatComes();
    }

    /** Holds that two banks answer alike, so that what was done to one alone changed nothing. */
    static void alike(String what, SeedBank one, SeedBank other) {
        Probe left = new Probe(one);
        Probe right = new Probe(other);
        for (int i = 0; i < left.answers.size(); i++) {
            long got = left.answers.get(i);
            long want = right.answers.get(i);
            if (got != want) {
                Checks.due(what + " changed " + left.calls.get(i), got, want);
            }
        }
        Checks.holds(what + " is asked enough", left.answers.size() > 200);
    }

    /** All that told() answers of a bank, but for its signs, which no image keeps. */
    static long[] allButSigns(SeedBank bank) {
        long[] rows = new long[136];
        for (int what = 1; what < rows.length; what++) {
            rows[what] = bank.told(what);
        }
        return rows;
    }

    private void keep(String call, long answer) {
        calls.add(call);
        answers.add(answer);
    }

    private void askState() {
        for (int what = 0; what < 8; what++) {
            keep("told " + what, bank.told(what));
        }
        for (int f = 1; f <= 6; f++) {
            for (int what = 0; what < 4; what++) {
                keep("told " + (10 * f + what), bank.told(10 * f + what));
            }
        }
        for (int field = 0; field < 36; field++) {
            keep("told " + (100 + field), bank.told(100 + field));
        }
    }

    private void askHours() {
        keep("fault", bank.fault());
        for (int what = 0; what < 3; what++) {
            keep("judge " + what, bank.judge(what));
        }
        for (int f = 0; f < 6; f++) {
            keep("behind " + f + " 0", bank.behind(f, 0));
            keep("behind " + f + " 1", bank.behind(f, 1));
        }
        for (int field = 0; field < 36; field += 3) {
            keep("lies " + field, bank.lies(field));
        }
        for (int what = 0; what < 4; what++) {
            keep("total " + what, bank.total(what));
        }
        keep("ruined 0", bank.ruined(0));
        keep("ruined 1", bank.ruined(1));
    }

    private void askMeadow() {
        for (int f = 1; f < 6; f++) {
            keep("pays 0 " + f, bank.pays(0, f));
            keep("over 0 " + f, bank.over(0, f, 0));
            keep("tax " + f, bank.tax(f, 100));
        }
        keep("bellows 2 0", bank.bellows(2, 0));
        keep("bellows 2 1", bank.bellows(2, 1));
        keep("principal 1 0", bank.principal(1, 0));
        keep("principal 1 1", bank.principal(1, 1));
    }

    private void askBreaths() {
        for (int i = -1; i < 8; i++) {
            keep("fits " + i, bank.fits(i));
        }
        keep("tries 0", bank.tries(0));
        keep("tries 1", bank.tries(1));
        for (int what = 0; what < 3; what++) {
            keep("year 17 40 " + what, bank.year(17, 40, what));
        }
    }

    /** What is to come of the PAD and of the IMAGES. */
    private void askWhatComes() {
        keep("done", bank.done());
        keep("wipe", bank.wipe());
        askFamiliesAndLost("behind done");
        for (int k = 0; k < 2; k++) {
            keep("restore " + k, bank.restore(k));
            askFamiliesAndLost("restored " + k);
        }
        keep("forget", bank.forget());
    }

    private void askFamiliesAndLost(String when) {
        for (int what = 1; what < 8; what++) {
            keep(when + " told " + what, bank.told(what));
        }
        for (int f = 1; f <= 6; f++) {
            for (int what = 0; what < 4; what++) {
                keep(when + " told " + (10 * f + what), bank.told(10 * f + what));
            }
        }
        keep(when + " lies", bank.total(1));
    }
}
