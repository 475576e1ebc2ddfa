/**
 * The bank of a meadow republic: seeds on dandelion clocks are money, breath is credit and the
 * wind carries what is paid. The document DOC.md says what each call answers.
 *
 * <p>No call makes an object: all rows are made with the bank and used again.
 */
public final class SeedBank {
    public static final int UNKNOWN = -1, OUTSIDE = -2, STATE = -3, FULL = -4, NO = -5, NONE = -6;
    public static final long GONE = -1000000000000000000L;

    private static final int FAMILIES = 6;
    private static final int SIDE = 6;
    private static final int FIELDS = 36;
    private static final int WINDS = 4;
    private static final int MOST_FORCE = 5;
    private static final int MOST_SEEDS = 60;
    private static final int MOST_LUNGS = 9;
    private static final int MOST_LYING = 999;
    private static final int MOST_TAX = 999;
    private static final int LAST_HOUR = 99;
    private static final int MOST_SIGNS = 60;
    private static final int MOST_YEARS = 12;
    private static final int MOST_SIGHTS = 8;
    private static final int MOST_BREATH = 9;
    private static final int MOST_EACH = 9;
    private static final int MOST_CARRIED = 40;
    private static final int MOST_FLEW = 81;
    private static final int MOST_GUSTS = 5;

    /** Where a seed is that has left the meadow; gusts() is asked for it by this number, too. */
    private static final int OUT = -1;
    private static final int NOBODY = -1;
    private static final int FINE = 0;

    private final Holdings now = new Holdings();
    private final Holdings firstImage = new Holdings();
    private final Holdings secondImage = new Holdings();
    private int imagesKept = 0;
    private final Pad pad = new Pad();
    private final Hours hours = new Hours();
    private final Growth growth = new Growth();
    private final Flight flight = new Flight();
    private final Draws draws = new Draws();

    public SeedBank() {
    }

    // ---- 1 families, fields, winds

    public int family(int family, int field, int seeds, int lungs) {
        if (!within(family, 0, FAMILIES - 1)) {
            return UNKNOWN;
        }
        if (!isField(field) || !within(seeds, 0, MOST_SEEDS) || !within(lungs, 1, MOST_LUNGS)) {
            return OUTSIDE;
        }
        int host = now.meadow.familyAt(field);
        if (host != NOBODY && host != family) {
            return STATE;
        }
        now.meadow.settle(family, field, seeds, lungs);
        return now.meadow.howManyFamilies();
    }

    public int leave(int family) {
        if (!now.meadow.isThere(family)) {
            return UNKNOWN;
        }
        now.meadow.moveOut(family);
        return now.meadow.howManyFamilies();
    }

    public int lay(int field, int seeds) {
        if (!isField(field) || !within(seeds, 0, MOST_LYING)) {
            return OUTSIDE;
        }
        int before = now.meadow.ground[field];
        now.meadow.ground[field] = seeds;
        return before;
    }

    public int set(int which, int v) {
        switch (which) {
            case 0:
                return within(v, 0, WINDS - 1) ? turnWind(v) : OUTSIDE;
            case 1:
                return within(v, 0, MOST_FORCE) ? changeForce(v) : OUTSIDE;
            case 2:
                return within(v, 0, 1) ? changeRain(v) : OUTSIDE;
            default:
                return OUTSIDE;
        }
    }

    private int turnWind(int v) {
        int before = now.meadow.wind;
        now.meadow.wind = v;
        return before;
    }

    private int changeForce(int v) {
        int before = now.meadow.force;
        now.meadow.force = v;
        return before;
    }

    private int changeRain(int v) {
        int before = now.meadow.rain;
        now.meadow.rain = v;
        return before;
    }

    public int say(int sign) {
        if (!within(sign, 33, 126)) {
            return OUTSIDE;
        }
        if (pad.signs >= MOST_SIGNS) {
            return FULL;
        }
        pad.write(sign);
        return pad.signs;
    }

    public int wipe() {
        int before = pad.signs;
        pad.clear();
        return before;
    }

    public int fault() {
        return pad.faultPlace();
    }

    // ---- 2 hours

    public int judge(int what) {
        if (!within(what, 0, 2)) {
            return OUTSIDE;
        }
        int refusal = hours.run(now.meadow, pad);
        if (refusal == NO) {
            return NO;
        }
        switch (what) {
            case 0:
                return hours.barredAct;
            case 1:
                return hours.barredWhy;
            default:
                return refusal == FINE ? hours.flown : refusal;
        }
    }

    public int behind(int family, int what) {
        if (!now.meadow.isThere(family)) {
            return UNKNOWN;
        }
        if (!within(what, 0, 1)) {
            return OUTSIDE;
        }
        int refusal = hours.run(now.meadow, pad);
        if (refusal != FINE) {
            return refusal;
        }
        return what == 0 ? hours.meadow.seeds[family] : hours.meadow.blown[family];
    }

    public int lies(int field) {
        if (!isField(field)) {
            return OUTSIDE;
        }
        int refusal = hours.run(now.meadow, pad);
        return refusal == FINE ? hours.meadow.ground[field] : refusal;
    }

    public int total(int what) {
        if (!within(what, 0, 3)) {
            return OUTSIDE;
        }
        int refusal = hours.run(now.meadow, pad);
        if (refusal != FINE) {
            return refusal;
        }
        return what == 3 ? hours.meadow.hour : sumOf(hours.meadow, what);
    }

    public int ruined(int what) {
        if (!within(what, 0, 1)) {
            return OUTSIDE;
        }
        int refusal = hours.run(now.meadow, pad);
        if (refusal != FINE) {
            return refusal;
        }
        return what == 0 ? hours.ruinAct : hours.ruinFamily;
    }

    public int done() {
        int refusal = hours.run(now.meadow, pad);
        if (refusal != FINE) {
            return refusal;
        }
        int acts = pad.acts;
        now.meadow.copyFrom(hours.meadow);
        pad.clear();
        return acts;
    }

    /** SEEDS (what = 0), what LIES (1), LOST (2) in a meadow. */
    private static int sumOf(Meadow meadow, int what) {
        switch (what) {
            case 0:
                return meadow.allSeeds();
            case 1:
                return meadow.allLying();
            default:
                return meadow.lost;
        }
    }

    // ---- 3 payments, thieves, principal

    public int pays(int one, int other) {
        if (!areTwo(one, other)) {
            return UNKNOWN;
        }
        return Payments.windBetween(now.meadow, one, other);
    }

    public int over(int one, int other, int what) {
        if (!areTwo(one, other)) {
            return UNKNOWN;
        }
        if (!within(what, 0, 1)) {
            return OUTSIDE;
        }
        return what == 0
                ? Payments.puffsBetween(now.meadow, one, other)
                : Payments.firstOnTheWay(now.meadow, one, other);
    }

    private boolean areTwo(int one, int other) {
        return one != other && now.meadow.isThere(one) && now.meadow.isThere(other);
    }

    public int bellows(int k, int what) {
        if (!within(k, 1, SIDE) || !within(what, 0, 1)) {
            return OUTSIDE;
        }
        int corner = Payments.richestCorner(now.meadow, k);
        return what == 0 ? Payments.squareWorth(now.meadow, corner, k) : corner;
    }

    public int principal(int m, int what) {
        if (!within(m, 0, MOST_YEARS) || !within(what, 0, 1)) {
            return OUTSIDE;
        }
        growth.run(now.meadow, m);
        return what == 0 ? growth.sum() : growth.fullestField();
    }

    public int tax(int family, int c) {
        if (!now.meadow.isThere(family)) {
            return UNKNOWN;
        }
        if (!within(c, 0, MOST_TAX)) {
            return OUTSIDE;
        }
        return Payments.taxOf(now.meadow, family, c);
    }

    // ---- 4 breaths, gusts, lovers

    public int seen(int b, int flew) {
        if (!within(b, 1, MOST_BREATH) || !within(flew, 0, MOST_FLEW)) {
            return OUTSIDE;
        }
        if (now.sights.count >= MOST_SIGHTS) {
            return FULL;
        }
        now.sights.note(b, flew);
        return now.sights.count;
    }

    public int forget() {
        int before = now.sights.count;
        now.sights.count = 0;
        return before;
    }

    public int fits(int i) {
        flight.gather(now.sights);
        if (i == -1) {
            return flight.count;
        }
        return within(i, 0, flight.count - 1) ? at(flight.twos, i) : NONE;
    }

    public int tries(int what) {
        if (!within(what, 0, 1)) {
            return OUTSIDE;
        }
        flight.gather(now.sights);
        if (flight.count == 0) {
            return NONE;
        }
        int breath = flight.bestBreath();
        return what == 0 ? breath : flight.mostLeft(breath);
    }

    public long gusts(int from, int to, int k, int part) {
        boolean toIsTold = to == OUT || isField(to);
        if (!isField(from) || !toIsTold || !within(k, 0, MOST_GUSTS) || !within(part, 0, 1)) {
            return GONE + OUTSIDE;
        }
        return flight.chance(from, to, k, part);
    }

    public int lovers(int n, int k, int what) {
        if (!within(n, 0, 99) || !within(k, 1, 9) || !within(what, 0, 1)) {
            return OUTSIDE;
        }
        // Who is left a multiple of k + 1 can be brought back to one by the other at each turn.
        int spare = n % (k + 1);
        if (what == 0) {
            return spare == 0 ? 0 : 1;
        }
        return spare == 0 ? NONE : spare;
    }

    public int year(int seed, int m, int what) {
        if (!within(seed, 0, 9999) || !within(m, 1, 99) || !within(what, 0, 2)) {
            return OUTSIDE;
        }
        draws.run(now.meadow, seed, m);
        return sumOf(draws.meadow, what);
    }

    public int image(int k) {
        if (!within(k, 0, 1)) {
            return OUTSIDE;
        }
        imageOf(k).copyFrom(now);
        imagesKept |= 1 << k;
        return 1;
    }

    public int restore(int k) {
        if (!within(k, 0, 1)) {
            return OUTSIDE;
        }
        if ((imagesKept & 1 << k) == 0) {
            return STATE;
        }
        now.copyFrom(imageOf(k));
        return 1;
    }

    private Holdings imageOf(int k) {
        return k == 0 ? firstImage : secondImage;
    }

    public int told(int what) {
        if (within(what, 0, 7)) {
            return toldOfAll(what);
        }
        if (within(what, 10, 69)) {
            return toldOfFamily(what / 10 - 1, what % 10);
        }
        if (within(what, 100, 100 + FIELDS - 1)) {
            return at(now.meadow.ground, what - 100);
        }
        return OUTSIDE;
    }

    private int toldOfAll(int what) {
        switch (what) {
            case 0:
                return pad.signs;
            case 1:
                return now.meadow.families;
            case 2:
                return now.meadow.wind;
            case 3:
                return now.meadow.force;
            case 4:
                return now.meadow.rain;
            case 5:
                return now.meadow.hour;
            case 6:
                return now.sights.count;
            default:
                return now.meadow.lost;
        }
    }

    private int toldOfFamily(int family, int what) {
        if (!now.meadow.isThere(family)) {
            return OUTSIDE;
        }
        switch (what) {
            case 0:
                return now.meadow.home[family];
            case 1:
                return now.meadow.seeds[family];
            case 2:
                return now.meadow.lungs[family];
            case 3:
                return now.meadow.blown[family];
            default:
                return OUTSIDE;
        }
    }

    private static boolean within(int v, int least, int most) {
        return v >= least && v <= most;
    }

    private static boolean isField(int field) {
        return field >= 0 && field < FIELDS;
    }

    /** A row's element; 0 where the row has none, so that no index can be off. */
    private static int at(int[] row, int i) {
        return i >= 0 && i < row.length ? row[i] : 0;
    }

    private static void clearRow(int[] row) {
        for (int i = 0; i < row.length; i++) {
            row[i] = 0;
        }
    }

    private static int sumOfRow(int[] row) {
        int sum = 0;
        for (int i = 0; i < row.length; i++) {
            sum += row[i];
        }
        return sum;
    }

    /** The FIELD to which the WIND carries from a FIELD, or OUT. */
    private static int downwind(int field, int wind, int force) {
        int y = field / SIDE;
        int x = field % SIDE;
        switch (wind) {
            case 0:
                y += force;
                break;
            case 1:
                x += force;
                break;
            case 2:
                y -= force;
                break;
            default:
                x -= force;
                break;
        }
        boolean isInside = x >= 0 && x < SIDE && y >= 0 && y < SIDE;
        return isInside ? SIDE * y + x : OUT;
    }

    /** Families, fields, wind and rain, and how seeds move among them. */
    private static final class Meadow {
        final int[] home = new int[FAMILIES];
        final int[] seeds = new int[FAMILIES];
        final int[] lungs = new int[FAMILIES];
        final int[] blown = new int[FAMILIES];
        final int[] ground = new int[FIELDS];
        int families = 0;
        int wind = 0;
        int force = 1;
        int rain = 0;
        int lost = 0;
        int hour = 0;

        void copyFrom(Meadow other) {
            System.arraycopy(other.home, 0, home, 0, FAMILIES);
            System.arraycopy(other.seeds, 0, seeds, 0, FAMILIES);
            System.arraycopy(other.lungs, 0, lungs, 0, FAMILIES);
            System.arraycopy(other.blown, 0, blown, 0, FAMILIES);
            System.arraycopy(other.ground, 0, ground, 0, FIELDS);
            families = other.families;
            wind = other.wind;
            force = other.force;
            rain = other.rain;
            lost = other.lost;
            hour = other.hour;
        }

        boolean isThere(int family) {
            return family >= 0 && family < FAMILIES && (families & 1 << family) != 0;
        }

        int howManyFamilies() {
            return Integer.bitCount(families);
        }

        int familyAt(int field) {
            for (int f = 0; f < FAMILIES; f++) {
                if ((families & 1 << f) != 0 && home[f] == field) {
                    return f;
                }
            }
            return NOBODY;
        }

        void settle(int family, int field, int itsSeeds, int itsLungs) {
            if (family < 0 || family >= FAMILIES) {
                return;
            }
            families |= 1 << family;
            home[family] = field;
            seeds[family] = itsSeeds;
            lungs[family] = itsLungs;
            blown[family] = 0;
        }

        void moveOut(int family) {
            if (!isThere(family)) {
                return;
            }
            families &= ~(1 << family);
            lieDown(home[family], seeds[family]);
            seeds[family] = 0;
        }

        private void lieDown(int field, int many) {
            if (field < 0 || field >= FIELDS) {
                lost += many;
                return;
            }
            int all = ground[field] + many;
            int above = all > MOST_LYING ? all - MOST_LYING : 0;
            ground[field] = all - above;
            lost += above;
        }

        private void arrive(int field, int many) {
            int host = familyAt(field);
            if (host < 0 || host >= FAMILIES) {
                lieDown(field, many);
                return;
            }
            int all = seeds[host] + many;
            int above = all > MOST_SEEDS ? all - MOST_SEEDS : 0;
            seeds[host] = all - above;
            lieDown(field, above);
        }

        void puff(int family, int many) {
            if (isThere(family)) {
                blown[family] += many;
                seeds[family] -= many;
                arrive(downwind(home[family], wind, force), many);
            }
        }

        void cough(int family) {
            if (isThere(family)) {
                int many = seeds[family];
                seeds[family] = 0;
                arrive(downwind(home[family], wind, force), many);
            }
        }

        void mow(int family) {
            if (!isThere(family) || !isField(home[family])) {
                return;
            }
            int taken = Math.min(MOST_SEEDS - seeds[family], ground[home[family]]);
            seeds[family] += taken;
            ground[home[family]] -= taken;
        }

        void graze() {
            for (int field = 0; field < FIELDS; field++) {
                int eaten = ground[field] / 2;
                ground[field] -= eaten;
                lost += eaten;
            }
        }

        void strikeHour() {
            hour++;
            clearRow(blown);
        }

        int allSeeds() {
            int sum = 0;
            for (int f = 0; f < FAMILIES; f++) {
                sum += isThere(f) ? seeds[f] : 0;
            }
            return sum;
        }

        int allLying() {
            return sumOfRow(ground);
        }

        /** The FAMILIES, as bits, that have SEEDS. */
        int owners() {
            int bits = 0;
            for (int f = 0; f < FAMILIES; f++) {
                if (isThere(f) && seeds[f] > 0) {
                    bits |= 1 << f;
                }
            }
            return bits;
        }
    }

    /** What an ACT of each kind needs and does; first and second are what its signs tell. */
    private static final class Act {
        static final int PUFF = 0, COUGH = 1, MOW = 2, WIND = 3, RAIN = 4, SHEEP = 5, HOUR = 6;

        static final int NOTHING_BARS = 0;
        static final int NO_FAMILY = 1;
        static final int IT_RAINS = 2;
        static final int NO_SEEDS = 3;
        static final int NO_BREATH = 4;
        static final int TOO_LATE = 5;

        /** The least reason for which the ACT can not be. */
        static int whyNot(Meadow meadow, int kind, int first, int second) {
            switch (kind) {
                case PUFF:
                case COUGH:
                case MOW:
                    return whyNotOfFamily(meadow, kind, first, second);
                case HOUR:
                    return meadow.hour >= LAST_HOUR ? TOO_LATE : NOTHING_BARS;
                default:
                    return NOTHING_BARS;
            }
        }

        private static int whyNotOfFamily(Meadow meadow, int kind, int family, int many) {
            if (!meadow.isThere(family)) {
                return NO_FAMILY;
            }
            if (kind == MOW) {
                return at(meadow.ground, meadow.home[family]) == 0 ? NO_SEEDS : NOTHING_BARS;
            }
            if (meadow.rain == 1) {
                return IT_RAINS;
            }
            int needed = kind == PUFF ? many : 1;
            if (meadow.seeds[family] < needed) {
                return NO_SEEDS;
            }
            boolean breathless = kind == PUFF && meadow.blown[family] + many > meadow.lungs[family];
            return breathless ? NO_BREATH : NOTHING_BARS;
        }

        /** How many seeds are blown by an ACT that can be. */
        static int blownBy(Meadow meadow, int kind, int first, int second) {
            switch (kind) {
                case PUFF:
                    return second;
                case COUGH:
                    return at(meadow.seeds, first);
                default:
                    return 0;
            }
        }

        static void carryOut(Meadow meadow, int kind, int first, int second) {
            switch (kind) {
                case PUFF:
                    meadow.puff(first, second);
                    break;
                case COUGH:
                    meadow.cough(first);
                    break;
                case MOW:
                    meadow.mow(first);
                    break;
                case WIND:
                    meadow.wind = first;
                    meadow.force = second;
                    break;
                case RAIN:
                    meadow.rain = 1 - meadow.rain;
                    break;
                case SHEEP:
                    meadow.graze();
                    break;
                default:
                    meadow.strikeHour();
                    break;
            }
        }
    }

    /** The signs said so far, read as they come: only what they mean is kept. */
    private static final class Pad {
        private static final int AHEAD_OF_ACT = 0;
        private static final int BEHIND_LETTER = 1;
        private static final int BEHIND_W = 2;
        private static final int BEHIND_WIND = 3;
        private static final int BROKEN = 4;

        final int[] kinds = new int[MOST_SIGNS];
        final int[] firsts = new int[MOST_SIGNS];
        final int[] seconds = new int[MOST_SIGNS];
        int signs = 0;
        int acts = 0;
        private int reading = AHEAD_OF_ACT;
        private int begun = 0;
        private int brokenAt = 0;

        void clear() {
            signs = 0;
            acts = 0;
            reading = AHEAD_OF_ACT;
        }

        int faultPlace() {
            if (reading == BROKEN) {
                return brokenAt;
            }
            return reading == AHEAD_OF_ACT ? NONE : signs;
        }

        void write(int sign) {
            if (reading != BROKEN) {
                reading = readSign(sign);
                brokenAt = signs;
            }
            signs++;
        }

        private int readSign(int sign) {
            switch (reading) {
                case BEHIND_LETTER:
                    return readDeed(sign);
                case BEHIND_W:
                    begun = sign - '0';
                    return within(begun, 0, WINDS - 1) ? BEHIND_WIND : BROKEN;
                case BEHIND_WIND:
                    return within(sign - '0', 0, MOST_FORCE)
                            ? endAct(Act.WIND, begun, sign - '0') : BROKEN;
                default:
                    return readBeginning(sign);
            }
        }

        private int readBeginning(int sign) {
            if (within(sign - 'A', 0, FAMILIES - 1)) {
                begun = sign - 'A';
                return BEHIND_LETTER;
            }
            switch (sign) {
                case 'w':
                    return BEHIND_W;
                case 'r':
                    return endAct(Act.RAIN, 0, 0);
                case 's':
                    return endAct(Act.SHEEP, 0, 0);
                case '.':
                    return endAct(Act.HOUR, 0, 0);
                default:
                    return BROKEN;
            }
        }

        private int readDeed(int sign) {
            if (within(sign - '0', 1, 9)) {
                return endAct(Act.PUFF, begun, sign - '0');
            }
            switch (sign) {
                case 'c':
                    return endAct(Act.COUGH, begun, 0);
                case 'm':
                    return endAct(Act.MOW, begun, 0);
                default:
                    return BROKEN;
            }
        }

        private int endAct(int kind, int first, int second) {
            if (acts < 0 || acts >= MOST_SIGNS) {
                return BROKEN;
            }
            kinds[acts] = kind;
            firsts[acts] = first;
            seconds[acts] = second;
            acts++;
            return AHEAD_OF_ACT;
        }
    }

    /** The PAD's ACTS, done on a copy of the meadow up to the first that can not be. */
    private static final class Hours {
        final Meadow meadow = new Meadow();
        int barredAct = NONE;
        int barredWhy = NONE;
        int flown = 0;
        int ruinAct = NONE;
        int ruinFamily = NONE;

        /** Answers FINE, or the refusal of all that asks for what is behind the PAD. */
        int run(Meadow from, Pad pad) {
            if (pad.faultPlace() != NONE) {
                return NO;
            }
            meadow.copyFrom(from);
            barredAct = NONE;
            barredWhy = NONE;
            flown = 0;
            ruinAct = NONE;
            ruinFamily = NONE;
            for (int act = 0; act < pad.acts && barredAct == NONE; act++) {
                runAct(act, at(pad.kinds, act), at(pad.firsts, act), at(pad.seconds, act));
            }
            return barredAct == NONE ? FINE : STATE;
        }

        private void runAct(int act, int kind, int first, int second) {
            int why = Act.whyNot(meadow, kind, first, second);
            if (why != Act.NOTHING_BARS) {
                barredAct = act;
                barredWhy = why;
                return;
            }
            int ownersAhead = meadow.owners();
            flown += Act.blownBy(meadow, kind, first, second);
            Act.carryOut(meadow, kind, first, second);
            noteRuin(act, ownersAhead & ~meadow.owners());
        }

        private void noteRuin(int act, int ruinedNow) {
            for (int f = 0; f < FAMILIES && ruinAct == NONE; f++) {
                if ((ruinedNow & 1 << f) != 0) {
                    ruinAct = act;
                    ruinFamily = f;
                }
            }
        }
    }

    /** What families and thieves can have of the meadow as it is. */
    private static final class Payments {
        static int windBetween(Meadow meadow, int one, int other) {
            int from = at(meadow.home, one);
            int to = at(meadow.home, other);
            for (int wind = 0; wind < WINDS; wind++) {
                for (int force = 1; force <= MOST_FORCE; force++) {
                    if (downwind(from, wind, force) == to) {
                        return 10 * wind + force;
                    }
                }
            }
            return NONE;
        }

        private static boolean isOnePuff(Meadow meadow, int one, int other) {
            return meadow.isThere(one) && meadow.isThere(other)
                    && windBetween(meadow, one, other) != NONE;
        }

        static int puffsBetween(Meadow meadow, int one, int other) {
            int reached = 1 << one;
            for (int puffs = 1; puffs < FAMILIES; puffs++) {
                reached = withNeighbours(meadow, reached);
                if ((reached & 1 << other) != 0) {
                    return puffs;
                }
            }
            return NONE;
        }

        private static int withNeighbours(Meadow meadow, int reached) {
            int wider = reached;
            for (int f = 0; f < FAMILIES; f++) {
                for (int g = 0; g < FAMILIES; g++) {
                    if ((reached & 1 << f) != 0 && isOnePuff(meadow, f, g)) {
                        wider |= 1 << g;
                    }
                }
            }
            return wider;
        }

        static int firstOnTheWay(Meadow meadow, int one, int other) {
            if (isOnePuff(meadow, one, other)) {
                return other;
            }
            int puffs = puffsBetween(meadow, one, other);
            for (int f = 0; f < FAMILIES && puffs != NONE; f++) {
                if (isOnePuff(meadow, one, f) && puffsBetween(meadow, f, other) == puffs - 1) {
                    return f;
                }
            }
            return NONE;
        }

        static int richestCorner(Meadow meadow, int k) {
            int best = 0;
            for (int y = 0; y <= SIDE - k; y++) {
                for (int x = 0; x <= SIDE - k; x++) {
                    int corner = SIDE * y + x;
                    if (squareWorth(meadow, corner, k) > squareWorth(meadow, best, k)) {
                        best = corner;
                    }
                }
            }
            return best;
        }

        static int squareWorth(Meadow meadow, int corner, int k) {
            int worth = 0;
            for (int y = 0; y < k; y++) {
                for (int x = 0; x < k; x++) {
                    worth += fieldWorth(meadow, corner + SIDE * y + x);
                }
            }
            return worth;
        }

        private static int fieldWorth(Meadow meadow, int field) {
            int host = meadow.familyAt(field);
            return at(meadow.ground, field) + at(meadow.seeds, host);
        }

        static int taxOf(Meadow meadow, int family, int c) {
            int all = meadow.allSeeds();
            if (all <= 0) {
                return 0;
            }
            int rest = c;
            for (int f = 0; f < FAMILIES; f++) {
                rest -= meadow.isThere(f) ? c * meadow.seeds[f] / all : 0;
            }
            int share = c * at(meadow.seeds, family) / all;
            return richerThan(meadow, family) < rest ? share + 1 : share;
        }

        /** How many come ahead of a FAMILY when it is asked who has most. */
        private static int richerThan(Meadow meadow, int family) {
            int its = at(meadow.seeds, family);
            int ahead = 0;
            for (int f = 0; f < FAMILIES; f++) {
                boolean more = meadow.seeds[f] > its || meadow.seeds[f] == its && f < family;
                ahead += meadow.isThere(f) && more ? 1 : 0;
            }
            return ahead;
        }
    }

    /** PRINCIPAL: what LIES, doubled and blown on year by year. */
    private static final class Growth {
        private final int[] lying = new int[FIELDS];
        private final int[] landed = new int[FIELDS];

        void run(Meadow from, int years) {
            System.arraycopy(from.ground, 0, lying, 0, FIELDS);
            for (int year = 0; year < years; year++) {
                runYear(from.wind, from.force);
            }
        }

        private void runYear(int wind, int force) {
            clearRow(landed);
            for (int field = 0; field < FIELDS; field++) {
                int grown = Math.min(MOST_LYING, 2 * lying[field]);
                int to = downwind(field, wind, force);
                if (isField(to)) {
                    landed[to] = Math.min(MOST_LYING, landed[to] + grown);
                }
            }
            System.arraycopy(landed, 0, lying, 0, FIELDS);
        }

        int sum() {
            return sumOfRow(lying);
        }

        int fullestField() {
            int best = 0;
            for (int field = 1; field < FIELDS; field++) {
                if (lying[field] > lying[best]) {
                    best = field;
                }
            }
            return best;
        }
    }

    /** With which breath how many were seen to fly. */
    private static final class Sights {
        final int[] breaths = new int[MOST_SIGHTS];
        final int[] flews = new int[MOST_SIGHTS];
        int count = 0;

        void copyFrom(Sights other) {
            System.arraycopy(other.breaths, 0, breaths, 0, MOST_SIGHTS);
            System.arraycopy(other.flews, 0, flews, 0, MOST_SIGHTS);
            count = other.count;
        }

        void note(int breath, int flew) {
            if (count < 0 || count >= MOST_SIGHTS) {
                return;
            }
            breaths[count] = breath;
            flews[count] = flew;
            count++;
        }

        boolean allAreBy(int each, int most) {
            for (int i = 0; i < count && i < MOST_SIGHTS; i++) {
                if (Math.min(breaths[i] * each, most) != flews[i]) {
                    return false;
                }
            }
            return true;
        }
    }

    /** How many seeds fly by a breath, and where one ends in gusts. */
    private static final class Flight {
        final int[] twos = new int[MOST_EACH * MOST_CARRIED];
        int count = 0;
        private final int[] left = new int[MOST_CARRIED + 1];
        private final int[] ways = new int[FIELDS];
        private final int[] waysOn = new int[FIELDS];

        /** Finds the twos of a and n that fit, as 100 times a and n, rising. */
        void gather(Sights sights) {
            count = 0;
            for (int each = 1; each <= MOST_EACH; each++) {
                for (int most = 1; most <= MOST_CARRIED; most++) {
                    if (count < twos.length && sights.allAreBy(each, most)) {
                        twos[count] = 100 * each + most;
                        count++;
                    }
                }
            }
        }

        int bestBreath() {
            int best = 1;
            int fewest = mostLeft(1);
            for (int breath = 2; breath <= MOST_BREATH; breath++) {
                int most = mostLeft(breath);
                if (most < fewest) {
                    best = breath;
                    fewest = most;
                }
            }
            return best;
        }

        /** How many twos are left at the most behind a breath, however many fly. */
        int mostLeft(int breath) {
            clearRow(left);
            int most = 0;
            for (int i = 0; i < count && i < twos.length; i++) {
                int flew = Math.min(breath * (twos[i] / 100), twos[i] % 100);
                if (within(flew, 0, MOST_CARRIED)) {
                    left[flew]++;
                    most = Math.max(most, left[flew]);
                }
            }
            return most;
        }

        long chance(int from, int to, int k, int part) {
            countWays(from, k);
            int lower = 1 << 2 * k;
            int upper = to == OUT ? lower - sumOfRow(ways) : at(ways, to);
            // The lower number is a power of two, so only twos can be common to both.
            for (int i = 0; i < 2 * k && upper % 2 == 0; i++) {
                upper /= 2;
                lower /= 2;
            }
            return part == 0 ? upper : lower;
        }

        private void countWays(int from, int k) {
            clearRow(ways);
            if (isField(from)) {
                ways[from] = 1;
            }
            for (int gust = 0; gust < k; gust++) {
                clearRow(waysOn);
                for (int field = 0; field < FIELDS; field++) {
                    spread(field);
                }
                System.arraycopy(waysOn, 0, ways, 0, FIELDS);
            }
        }

        private void spread(int field) {
            for (int wind = 0; wind < WINDS; wind++) {
                int to = downwind(field, wind, 1);
                if (isField(to)) {
                    waysOn[to] += at(ways, field);
                }
            }
        }
    }

    /** A YEAR of ACTS that are drawn from a seed, on a copy of the meadow. */
    private static final class Draws {
        final Meadow meadow = new Meadow();
        private int kind = Act.HOUR;
        private int first = 0;
        private int second = 0;

        void run(Meadow from, int seed, int acts) {
            meadow.copyFrom(from);
            int x = seed;
            for (int i = 0; i < acts; i++) {
                x = (75 * x + 74) % 65537;
                drawAct(x);
                if (Act.whyNot(meadow, kind, first, second) == Act.NOTHING_BARS) {
                    Act.carryOut(meadow, kind, first, second);
                }
            }
        }

        private void drawAct(int x) {
            first = x % FAMILIES;
            second = 0;
            switch (x / 6 % 8) {
                case 3:
                    kind = Act.MOW;
                    break;
                case 4:
                    kind = Act.COUGH;
                    break;
                case 5:
                    kind = Act.WIND;
                    first = x / 48 % 4;
                    second = x / 192 % 6;
                    break;
                case 6:
                    kind = Act.SHEEP;
                    break;
                case 7:
                    kind = Act.HOUR;
                    break;
                default:
                    kind = Act.PUFF;
                    second = 1 + x / 48 % 9;
                    break;
            }
        }
    }

    /** All that an IMAGE keeps. */
    private static final class Holdings {
        final Meadow meadow = new Meadow();
        final Sights sights = new Sights();

        void copyFrom(Holdings other) {
            meadow.copyFrom(other.meadow);
            sights.copyFrom(other.sights);
        }
    }
}
