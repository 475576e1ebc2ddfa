import java.util.ArrayDeque;
import java.util.ArrayList;
import java.util.Arrays;
import java.util.HashMap;
import java.util.List;
import java.util.Map;
import java.util.TreeMap;
import java.util.regex.Matcher;
import java.util.regex.Pattern;

/**
 * The document told a second time, with the Java library and no thought of its cost, so that
 * what the program answers can be held against it.
 */
final class Model {
    private static final int UNKNOWN = -1, OUTSIDE = -2, STATE = -3, FULL = -4, NO = -5, NONE = -6;
    private static final int[][] STEPS = {{1, 0}, {0, 1}, {-1, 0}, {0, -1}};

    private static final class Family {
        int field, seeds, lungs, blown;

        Family copy() {
            Family f = new Family();
            f.field = field;
            f.seeds = seeds;
            f.lungs = lungs;
            f.blown = blown;
            return f;
        }
    }

    private static final class World {
        Map<Integer, Family> families = new TreeMap<>();
        int[] lies = new int[36];
        int wind = 0, force = 1, rain = 0, lost = 0, hours = 0;
        List<int[]> sights = new ArrayList<>();

        World copy() {
            World w = new World();
            families.forEach((name, f) -> w.families.put(name, f.copy()));
            w.lies = lies.clone();
            w.wind = wind;
            w.force = force;
            w.rain = rain;
            w.lost = lost;
            w.hours = hours;
            w.sights = new ArrayList<>(sights);
            return w;
        }

        void lie(int field, int many) {
            for (int i = 0; i < many; i++) {
                if (lies[field] < 999) {
                    lies[field]++;
                } else {
                    lost++;
                }
            }
        }

        void fly(int field, int many) {
            int y = field / 6 + STEPS[wind][0] * force;
            int x = field % 6 + STEPS[wind][1] * force;
            if (Math.min(x, y) < 0 || Math.max(x, y) > 5) {
                lost += many;
                return;
            }
            int to = 6 * y + x;
            for (Family f : families.values()) {
                if (f.field == to) {
                    int room = Math.min(many, 60 - f.seeds);
                    f.seeds += room;
                    lie(to, many - room);
                    return;
                }
            }
            lie(to, many);
        }

        int seeds() {
            return families.values().stream().mapToInt(f -> f.seeds).sum();
        }

        int lying() {
            return Arrays.stream(lies).sum();
        }

        /** Why the ACT can not be; 0 if it can, and then it has been done. */
        int act(String act) {
            char sign = act.charAt(0);
            if (sign >= 'A' && sign <= 'F') {
                return actOf(families.get(sign - 'A'), act.charAt(1));
            }
            if (sign == 'w') {
                wind = act.charAt(1) - '0';
                force = act.charAt(2) - '0';
            } else if (sign == 'r') {
                rain ^= 1;
            } else if (sign == 's') {
                for (int i = 0; i < 36; i++) {
                    lost += lies[i] / 2;
                    lies[i] = (lies[i] + 1) / 2;
                }
            } else {
                if (hours == 99) {
                    return 5;
                }
                hours++;
                families.values().forEach(f -> f.blown = 0);
            }
            return 0;
        }

        private int actOf(Family f, char deed) {
            if (f == null) {
                return 1;
            }
            if (deed == 'm') {
                if (lies[f.field] == 0) {
                    return 3;
                }
                while (f.seeds < 60 && lies[f.field] > 0) {
                    f.seeds++;
                    lies[f.field]--;
                }
                return 0;
            }
            int many = deed == 'c' ? f.seeds : deed - '0';
            if (rain == 1) {
                return 2;
            }
            if (many == 0 || many > f.seeds) {
                return 3;
            }
            if (deed != 'c') {
                if (f.blown + many > f.lungs) {
                    return 4;
                }
                f.blown += many;
            }
            f.seeds -= many;
            fly(f.field, many);
            return 0;
        }

        boolean adjacent(int one, int other) {
            int a = families.get(one).field;
            int b = families.get(other).field;
            return one != other && (a / 6 == b / 6 || a % 6 == b % 6);
        }
    }

    private static final Pattern ACT = Pattern.compile("[A-F][1-9cm]|w[0-3][0-5]|[rs.]");
    private static final Pattern BEGUN = Pattern.compile("[A-F]|w[0-3]?");

    private World now = new World();
    private String pad = "";
    private final World[] images = new World[2];

    private World behind;
    private int barred, why, flown, ruinAct, ruinWho;

    int family(int family, int field, int seeds, int lungs) {
        if (family < 0 || family > 5) return UNKNOWN;
        if (field < 0 || field > 35 || seeds < 0 || seeds > 60 || lungs < 1 || lungs > 9) return OUTSIDE;
        for (Map.Entry<Integer, Family> e : now.families.entrySet()) {
            if (e.getKey() != family && e.getValue().field == field) return STATE;
        }
        Family f = new Family();
        f.field = field;
        f.seeds = seeds;
        f.lungs = lungs;
        now.families.put(family, f);
        return now.families.size();
    }

    int leave(int family) {
        Family f = now.families.remove(family);
        if (f == null) return UNKNOWN;
        now.lie(f.field, f.seeds);
        return now.families.size();
    }

    int lay(int field, int seeds) {
        if (field < 0 || field > 35 || seeds < 0 || seeds > 999) return OUTSIDE;
        int was = now.lies[field];
        now.lies[field] = seeds;
        return was;
    }

    int set(int which, int v) {
        if (which < 0 || which > 2 || v < 0 || v > new int[] {3, 5, 1}[which]) return OUTSIDE;
        int was = new int[] {now.wind, now.force, now.rain}[which];
        if (which == 0) now.wind = v;
        if (which == 1) now.force = v;
        if (which == 2) now.rain = v;
        return was;
    }

    int say(int sign) {
        if (sign < 33 || sign > 126) return OUTSIDE;
        if (pad.length() == 60) return FULL;
        pad += (char) sign;
        return pad.length();
    }

    int wipe() {
        int was = pad.length();
        pad = "";
        return was;
    }

    private List<String> acts() {
        List<String> acts = new ArrayList<>();
        Matcher m = ACT.matcher(pad);
        int place = 0;
        while (m.find(place) && m.start() == place) {
            acts.add(m.group());
            place = m.end();
        }
        return acts;
    }

    int fault() {
        int place = acts().stream().mapToInt(String::length).sum();
        if (place == pad.length()) return NONE;
        int end = place;
        while (end < pad.length() && BEGUN.matcher(pad.substring(place, end + 1)).matches()) end++;
        return end;
    }

    private int judgeAll() {
        if (fault() != NONE) return NO;
        behind = now.copy();
        barred = why = ruinAct = ruinWho = NONE;
        flown = 0;
        List<String> acts = acts();
        for (int i = 0; i < acts.size(); i++) {
            World ahead = behind.copy();
            int reason = behind.act(acts.get(i));
            if (reason != 0) {
                barred = i;
                why = reason;
                return STATE;
            }
            char letter = acts.get(i).charAt(0);
            char deed = acts.get(i).charAt(acts.get(i).length() - 1);
            if (letter >= 'A' && letter <= 'F' && deed != 'm') {
                flown += deed == 'c' ? ahead.families.get(letter - 'A').seeds : deed - '0';
            }
            for (int f : ahead.families.keySet()) {
                boolean gone = ahead.families.get(f).seeds > 0 && behind.families.get(f).seeds == 0;
                if (gone && ruinAct == NONE) {
                    ruinAct = i;
                    ruinWho = f;
                }
            }
        }
        return 0;
    }

    int judge(int what) {
        if (what < 0 || what > 2) return OUTSIDE;
        int refused = judgeAll();
        if (refused == NO || refused == STATE && what == 2) return refused;
        return new int[] {barred, why, flown}[what];
    }

    int behind(int family, int what) {
        if (!now.families.containsKey(family)) return UNKNOWN;
        if (what < 0 || what > 1) return OUTSIDE;
        int refused = judgeAll();
        if (refused != 0) return refused;
        Family f = behind.families.get(family);
        return what == 0 ? f.seeds : f.blown;
    }

    int lies(int field) {
        if (field < 0 || field > 35) return OUTSIDE;
        int refused = judgeAll();
        return refused != 0 ? refused : behind.lies[field];
    }

    int total(int what) {
        if (what < 0 || what > 3) return OUTSIDE;
        int refused = judgeAll();
        if (refused != 0) return refused;
        return new int[] {behind.seeds(), behind.lying(), behind.lost, behind.hours}[what];
    }

    int ruined(int what) {
        if (what < 0 || what > 1) return OUTSIDE;
        int refused = judgeAll();
        return refused != 0 ? refused : what == 0 ? ruinAct : ruinWho;
    }

    int done() {
        int refused = judgeAll();
        if (refused != 0) return refused;
        int acts = acts().size();
        now = behind;
        pad = "";
        return acts;
    }

    private boolean two(int one, int other) {
        return one != other && now.families.containsKey(one) && now.families.containsKey(other);
    }

    int pays(int one, int other) {
        if (!two(one, other)) return UNKNOWN;
        int a = now.families.get(one).field;
        int b = now.families.get(other).field;
        int dy = b / 6 - a / 6;
        int dx = b % 6 - a % 6;
        if (dx == 0) return dy > 0 ? dy : 20 - dy;
        if (dy == 0) return dx > 0 ? 10 + dx : 30 - dx;
        return NONE;
    }

    int over(int one, int other, int what) {
        if (!two(one, other)) return UNKNOWN;
        if (what < 0 || what > 1) return OUTSIDE;
        Map<Integer, Integer> far = new HashMap<>();
        ArrayDeque<Integer> queue = new ArrayDeque<>();
        far.put(other, 0);
        queue.add(other);
        while (!queue.isEmpty()) {
            int f = queue.poll();
            for (int g : now.families.keySet()) {
                if (now.adjacent(f, g) && !far.containsKey(g)) {
                    far.put(g, far.get(f) + 1);
                    queue.add(g);
                }
            }
        }
        if (!far.containsKey(one)) return NONE;
        if (what == 0) return far.get(one);
        for (int g : now.families.keySet()) {
            if (now.adjacent(one, g) && far.getOrDefault(g, 99) == far.get(one) - 1) return g;
        }
        throw new IllegalStateException();
    }

    int bellows(int k, int what) {
        if (k < 1 || k > 6 || what < 0 || what > 1) return OUTSIDE;
        int[] worth = now.lies.clone();
        now.families.values().forEach(f -> worth[f.field] += f.seeds);
        int best = -1;
        int which = -1;
        for (int corner = 0; corner < 36; corner++) {
            if (corner / 6 + k > 6 || corner % 6 + k > 6) continue;
            int sum = 0;
            for (int field = 0; field < 36; field++) {
                int dy = field / 6 - corner / 6;
                int dx = field % 6 - corner % 6;
                if (dy >= 0 && dy < k && dx >= 0 && dx < k) sum += worth[field];
            }
            if (sum > best) {
                best = sum;
                which = corner;
            }
        }
        return what == 0 ? best : which;
    }

    int principal(int m, int what) {
        if (m < 0 || m > 12 || what < 0 || what > 1) return OUTSIDE;
        World w = now.copy();
        w.families.clear();
        for (int year = 0; year < m; year++) {
            int[] grown = w.lies;
            w.lies = new int[36];
            for (int field = 0; field < 36; field++) w.fly(field, Math.min(999, 2 * grown[field]));
        }
        int most = Arrays.stream(w.lies).max().getAsInt();
        int where = 0;
        while (w.lies[where] != most) where++;
        return what == 0 ? w.lying() : where;
    }

    int tax(int family, int c) {
        if (!now.families.containsKey(family)) return UNKNOWN;
        if (c < 0 || c > 999) return OUTSIDE;
        int all = now.seeds();
        if (all == 0) return 0;
        Map<Integer, Integer> shares = new HashMap<>();
        now.families.forEach((name, f) -> shares.put(name, c * f.seeds / all));
        int rest = c - shares.values().stream().mapToInt(s -> s).sum();
        List<Integer> order = new ArrayList<>(now.families.keySet());
        order.sort((f, g) -> now.families.get(g).seeds - now.families.get(f).seeds);
        for (int f : order) {
            if (rest > 0) {
                shares.merge(f, 1, Integer::sum);
                rest--;
            }
        }
        return shares.get(family);
    }

    int seen(int b, int flew) {
        if (b < 1 || b > 9 || flew < 0 || flew > 81) return OUTSIDE;
        if (now.sights.size() == 8) return FULL;
        now.sights.add(new int[] {b, flew});
        return now.sights.size();
    }

    int forget() {
        int was = now.sights.size();
        now.sights.clear();
        return was;
    }

    private List<Integer> fitting() {
        List<Integer> fit = new ArrayList<>();
        for (int code = 101; code <= 940; code++) {
            int a = code / 100;
            int n = code % 100;
            boolean good = n >= 1 && n <= 40;
            for (int[] sight : now.sights) good &= Math.min(sight[0] * a, n) == sight[1];
            if (good) fit.add(code);
        }
        return fit;
    }

    int fits(int i) {
        List<Integer> fit = fitting();
        if (i == -1) return fit.size();
        return i < 0 || i >= fit.size() ? NONE : fit.get(i);
    }

    int tries(int what) {
        if (what < 0 || what > 1) return OUTSIDE;
        List<Integer> fit = fitting();
        if (fit.isEmpty()) return NONE;
        int best = 0;
        int fewest = Integer.MAX_VALUE;
        for (int b = 9; b >= 1; b--) {
            Map<Integer, Integer> left = new HashMap<>();
            for (int code : fit) left.merge(Math.min(b * (code / 100), code % 100), 1, Integer::sum);
            int most = left.values().stream().max(Integer::compare).get();
            if (most <= fewest) {
                fewest = most;
                best = b;
            }
        }
        return what == 0 ? best : fewest;
    }

    private static long walks(int y, int x, int to, int k) {
        boolean out = y < 0 || y > 5 || x < 0 || x > 5;
        if (out) return to == -1 ? 1L << 2 * k : 0;
        if (k == 0) return 6 * y + x == to ? 1 : 0;
        long sum = 0;
        for (int[] step : STEPS) sum += walks(y + step[0], x + step[1], to, k - 1);
        return sum;
    }

    long gusts(int from, int to, int k, int part) {
        if (from < 0 || from > 35 || to < -1 || to > 35 || k < 0 || k > 5 || part < 0 || part > 1) {
            return -1000000000000000000L + OUTSIDE;
        }
        long upper = walks(from / 6, from % 6, to, k);
        long lower = 1L << 2 * k;
        long common = java.math.BigInteger.valueOf(upper)
                .gcd(java.math.BigInteger.valueOf(lower)).longValue();
        return (part == 0 ? upper : lower) / common;
    }

    int lovers(int n, int k, int what) {
        if (n < 0 || n > 99 || k < 1 || k > 9 || what < 0 || what > 1) return OUTSIDE;
        int[] first = new int[n + 1];
        for (int left = 0; left <= n; left++) {
            for (int pluck = Math.min(k, left); pluck >= 1; pluck--) {
                if (first[left - pluck] == 0) first[left] = pluck;
            }
        }
        if (what == 0) return first[n] > 0 ? 1 : 0;
        return first[n] > 0 ? first[n] : NONE;
    }

    int year(int seed, int m, int what) {
        if (seed < 0 || seed > 9999 || m < 1 || m > 99 || what < 0 || what > 2) return OUTSIDE;
        World w = now.copy();
        long x = seed;
        for (int i = 0; i < m; i++) {
            x = (75 * x + 74) % 65537;
            char letter = (char) ('A' + x % 6);
            switch ((int) (x / 6 % 8)) {
                case 0, 1, 2 -> w.act("" + letter + (1 + x / 48 % 9));
                case 3 -> w.act(letter + "m");
                case 4 -> w.act(letter + "c");
                case 5 -> w.act("w" + x / 48 % 4 + x / 192 % 6);
                case 6 -> w.act("s");
                default -> w.act(".");
            }
        }
        return new int[] {w.seeds(), w.lying(), w.lost}[what];
    }

    int image(int k) {
        if (k < 0 || k > 1) return OUTSIDE;
        images[k] = now.copy();
        return 1;
    }

    int restore(int k) {
        if (k < 0 || k > 1) return OUTSIDE;
        if (images[k] == null) return STATE;
        now = images[k].copy();
        return 1;
    }

    int told(int what) {
        return allTold().getOrDefault(what, OUTSIDE);
    }

    /** What told() tells, by its numbers. */
    Map<Integer, Integer> allTold() {
        Map<Integer, Integer> rows = new HashMap<>();
        int bits = now.families.keySet().stream().mapToInt(f -> 1 << f).sum();
        int[] all = {pad.length(), bits, now.wind, now.force, now.rain, now.hours,
            now.sights.size(), now.lost};
        for (int i = 0; i < all.length; i++) rows.put(i, all[i]);
        now.families.forEach((name, f) -> {
            int row = 10 * (1 + name);
            rows.put(row, f.field);
            rows.put(row + 1, f.seeds);
            rows.put(row + 2, f.lungs);
            rows.put(row + 3, f.blown);
        });
        for (int i = 0; i < 36; i++) rows.put(100 + i, now.lies[i]);
        return rows;
    }
}
