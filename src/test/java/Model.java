import java.math.BigInteger;
import java.util.ArrayList;
import java.util.Arrays;
import java.util.HashMap;
import java.util.List;
import java.util.Map;

/** The document read a second time, as slowly and plainly as can be, to hold FlakePost against. */
final class Model {
    static final int UNKNOWN = -1, OUTSIDE = -2, STATE = -3, FULL = -4, NO = -5, NONE = -6;
    static final long GONE = -1000000000000000000L;
    private static final int[][] GROWN = new int[256][256];
    private static final Map<Integer, Boolean> SPOONS = new HashMap<>();

    static {
        for (int law = 0; law < 256; law++) {
            for (int arm = 0; arm < 256; arm++) {
                GROWN[law][arm] = grow(arm, law);
            }
        }
    }

    private static final class Flake {
        int arm, place, height, one, with = NONE;
        boolean river;

        Flake copy() {
            Flake f = new Flake();
            f.arm = arm;
            f.place = place;
            f.height = height;
            f.one = one;
            f.with = with;
            f.river = river;
            return f;
        }
    }

    private static final class World {
        Flake[] flakes = new Flake[8];
        int[] places = {0, 1, 2, 3, 4, 5};
        boolean[] umbrellas = new boolean[6];
        int[] laws = {90, 30};
        List<int[]> sights = new ArrayList<>();

        World copy() {
            World w = new World();
            for (int i = 0; i < 8; i++) {
                w.flakes[i] = flakes[i] == null ? null : flakes[i].copy();
            }
            w.places = places.clone();
            w.umbrellas = umbrellas.clone();
            w.laws = laws.clone();
            w.sights = new ArrayList<>(sights);
            return w;
        }

        boolean falls(int i) {
            return flakes[i] != null && !flakes[i].river && flakes[i].height > 0;
        }

        int count() {
            int n = 0;
            for (Flake f : flakes) {
                n += f == null ? 0 : 1;
            }
            return n;
        }
    }

    private static final class Judged {
        World world;
        int bad = NONE, why = NONE, down = 0, first = NONE, acts = 0;
    }

    private World now = new World();
    private final World[] images = new World[2];
    private String pad = "";

    private static int grow(int arm, int law) {
        int next = 0;
        for (int i = 0; i < 8; i++) {
            int after = i == 7 ? 0 : arm / (1 << (i + 1)) % 2;
            int self = arm / (1 << i) % 2;
            int ahead = i == 0 ? 0 : arm / (1 << (i - 1)) % 2;
            int number = 4 * after + 2 * self + ahead;
            next += law / (1 << number) % 2 * (1 << i);
        }
        return next;
    }

    static int grown(int arm, int law) {
        return GROWN[law][arm];
    }

    private static boolean out(int x, int least, int most) {
        return x < least || x > most;
    }

    int flake(int flake, int arm, int place, int height, int one) {
        if (out(flake, 0, 7) || out(one, 0, 5)) {
            return UNKNOWN;
        }
        if (out(arm, 0, 255) || out(place, 0, 15) || out(height, 0, 9)) {
            return OUTSIDE;
        }
        Flake f = new Flake();
        f.arm = arm;
        f.place = place;
        f.height = height;
        f.one = one;
        now.flakes[flake] = f;
        return now.count();
    }

    int melt(int flake) {
        if (out(flake, 0, 7) || now.flakes[flake] == null) {
            return UNKNOWN;
        }
        now.flakes[flake] = null;
        return now.count();
    }

    int stand(int one, int place) {
        if (out(one, 0, 5)) {
            return UNKNOWN;
        }
        if (out(place, 0, 15)) {
            return OUTSIDE;
        }
        int was = now.places[one];
        now.places[one] = place;
        now.umbrellas[one] = false;
        return was;
    }

    int air(int air, int law) {
        if (out(air, 0, 1) || out(law, 0, 255)) {
            return OUTSIDE;
        }
        int was = now.laws[air];
        now.laws[air] = law;
        return was;
    }

    int say(int sign) {
        if (out(sign, 33, 126)) {
            return OUTSIDE;
        }
        if (pad.length() == 60) {
            return FULL;
        }
        pad += (char) sign;
        return pad.length();
    }

    int wipe() {
        int were = pad.length();
        pad = "";
        return were;
    }

    /** The longest start of the PAD that is a row of whole ACTS, by the letter of the document. */
    int fault() {
        String rest = pad;
        int at = 0;
        while (!rest.isEmpty()) {
            if (rest.substring(0, 1).matches("[cd<>.]")) {
                rest = rest.substring(1);
                at += 1;
            } else if (rest.matches("(?s)[A-F][<>u].*")) {
                rest = rest.substring(2);
                at += 2;
            } else {
                return rest.substring(0, 1).matches("[A-F]") ? at + 1 : at;
            }
        }
        return NONE;
    }

    private static boolean can(World w, String act) {
        return why(w, act) == 0;
    }

    private static int why(World w, String act) {
        if (act.length() == 2) {
            int place = w.places[act.charAt(0) - 'A'];
            return act.charAt(1) == '<' && place == 0 || act.charAt(1) == '>' && place == 15 ? 1 : 0;
        }
        for (int i = 0; i < 8; i++) {
            if (w.falls(i)) {
                return 0;
            }
        }
        return 2;
    }

    /** How many came DOWN. */
    private static int act(World w, String act) {
        if (act.length() == 2) {
            int one = act.charAt(0) - 'A';
            if (act.charAt(1) == 'u') {
                w.umbrellas[one] = !w.umbrellas[one];
            } else {
                w.places[one] += act.charAt(1) == '<' ? -1 : 1;
            }
            return 0;
        }
        int down = 0;
        for (int i = 0; i < 8; i++) {
            if (!w.falls(i)) {
                continue;
            }
            Flake f = w.flakes[i];
            if (act.equals("c") || act.equals("d")) {
                f.arm = GROWN[w.laws[act.equals("c") ? 0 : 1]][f.arm];
            } else if (act.equals(".")) {
                f.height--;
                if (f.height == 0) {
                    down++;
                    for (int one = 5; one >= 0; one--) {
                        if (w.places[one] == f.place && !w.umbrellas[one]) {
                            f.with = one;
                        }
                    }
                }
            } else {
                f.place += act.equals("<") ? -1 : 1;
                if (f.place < 0 || f.place > 15) {
                    f.river = true;
                    f.place = NONE;
                    f.height = 0;
                }
            }
        }
        return down;
    }

    private static int postedBits(World w) {
        int bits = 0;
        for (int i = 0; i < 8; i++) {
            if (w.flakes[i] != null && w.flakes[i].with == w.flakes[i].one) {
                bits |= 1 << i;
            }
        }
        return bits;
    }

    private static int riverBits(World w) {
        int bits = 0;
        for (int i = 0; i < 8; i++) {
            if (w.flakes[i] != null && w.flakes[i].river) {
                bits |= 1 << i;
            }
        }
        return bits;
    }

    private Judged live() {
        Judged j = new Judged();
        j.world = now.copy();
        for (int at = 0; at < pad.length();) {
            int length = pad.charAt(at) >= 'A' && pad.charAt(at) <= 'F' ? 2 : 1;
            String act = pad.substring(at, at + length);
            at += length;
            if (!can(j.world, act)) {
                j.bad = j.acts;
                j.why = why(j.world, act);
                return j;
            }
            int before = postedBits(j.world);
            j.down += act(j.world, act);
            if (j.first == NONE && (postedBits(j.world) & ~before) != 0) {
                j.first = j.acts;
            }
            j.acts++;
        }
        return j;
    }

    int judge(int what) {
        if (out(what, 0, 2)) {
            return OUTSIDE;
        }
        if (fault() != NONE) {
            return NO;
        }
        Judged j = live();
        return what == 0 ? j.bad : what == 1 ? j.why : j.bad != NONE ? STATE : j.down;
    }

    private int refusal() {
        return fault() != NONE ? NO : live().bad != NONE ? STATE : 0;
    }

    int behind(int flake, int what) {
        if (out(flake, 0, 7) || now.flakes[flake] == null) {
            return UNKNOWN;
        }
        if (out(what, 0, 3)) {
            return OUTSIDE;
        }
        if (refusal() != 0) {
            return refusal();
        }
        Flake f = live().world.flakes[flake];
        return new int[] {f.arm, f.place, f.height, f.with}[what];
    }

    int stands(int one, int what) {
        if (out(one, 0, 5)) {
            return UNKNOWN;
        }
        if (out(what, 0, 2)) {
            return OUTSIDE;
        }
        if (refusal() != 0) {
            return refusal();
        }
        World w = live().world;
        int bits = 0;
        for (int i = 0; i < 8; i++) {
            bits |= w.flakes[i] != null && w.flakes[i].with == one ? 1 << i : 0;
        }
        return what == 0 ? w.places[one] : what == 1 ? (w.umbrellas[one] ? 1 : 0) : bits;
    }

    int posted(int what) {
        if (out(what, 0, 2)) {
            return OUTSIDE;
        }
        if (refusal() != 0) {
            return refusal();
        }
        Judged j = live();
        return what == 0 ? postedBits(j.world) : what == 1 ? j.first : Integer.bitCount(riverBits(j.world));
    }

    int done() {
        if (refusal() != 0) {
            return refusal();
        }
        Judged j = live();
        now = j.world;
        pad = "";
        return j.acts;
    }

    int says(int arm) {
        if (out(arm, 0, 255)) {
            return OUTSIDE;
        }
        String cells = new StringBuilder(Integer.toBinaryString(256 + arm).substring(1)).reverse().toString();
        String said = "";
        while (!cells.isEmpty()) {
            String rest = cells.replaceFirst(cells.charAt(0) == '0' ? "^0+" : "^1+", "");
            said += cells.length() - rest.length();
            cells = rest;
        }
        return Integer.parseInt(said);
    }

    long grew(int from, int to, int n, int what) {
        if (out(from, 0, 255) || out(to, 0, 255) || out(n, 0, 10) || out(what, 0, 1)) {
            return OUTSIDE;
        }
        long count = 0;
        long first = NONE;
        for (int row = 0; row < 1 << n; row++) {
            int arm = from;
            long digits = 0;
            for (int i = n - 1; i >= 0; i--) {
                int air = row >> i & 1;
                arm = GROWN[now.laws[air]][arm];
                digits = digits * 10 + air + 1;
            }
            if (arm == to) {
                count++;
                first = first == NONE ? digits : Math.min(first, digits);
            }
        }
        return what == 0 ? count : first;
    }

    int soon(int from, int to) {
        if (out(from, 0, 255) || out(to, 0, 255)) {
            return OUTSIDE;
        }
        boolean[] level = new boolean[256];
        level[from] = true;
        for (int airs = 0; airs <= 256; airs++) {
            if (level[to]) {
                return airs;
            }
            boolean[] next = new boolean[256];
            for (int arm = 0; arm < 256; arm++) {
                if (level[arm]) {
                    next[GROWN[now.laws[0]][arm]] = true;
                    next[GROWN[now.laws[1]][arm]] = true;
                }
            }
            level = next;
        }
        return NONE;
    }

    private int best(int flake, int used, boolean own) {
        if (flake == 8) {
            return 0;
        }
        int most = best(flake + 1, used, own);
        for (int one = 0; one < 6 && now.falls(flake); one++) {
            Flake f = now.flakes[flake];
            boolean may = !own || f.one == one;
            if (may && (used >> one & 1) == 0 && Math.abs(now.places[one] - f.place) <= f.height) {
                most = Math.max(most, 1 + best(flake + 1, used | 1 << one, own));
            }
        }
        return most;
    }

    int most(int what) {
        return out(what, 0, 1) ? OUTSIDE : best(0, 0, what == 0);
    }

    int patch(int what) {
        if (out(what, 0, 1)) {
            return OUTSIDE;
        }
        for (int wide = 16; wide > 0; wide--) {
            for (int first = 0; first + wide <= 16; first++) {
                if (free(first, first + wide - 1)) {
                    return what == 0 ? wide : first;
                }
            }
        }
        return what == 0 ? 0 : NONE;
    }

    private boolean free(int from, int to) {
        for (int place : now.places) {
            if (place >= from && place <= to) {
                return false;
            }
        }
        for (Flake f : now.flakes) {
            if (f != null && !f.river && f.height == 0 && f.with == NONE && f.place >= from && f.place <= to) {
                return false;
            }
        }
        return true;
    }

    int seen(int from, int to) {
        if (out(from, 0, 255) || out(to, 0, 255)) {
            return OUTSIDE;
        }
        if (now.sights.size() == 8) {
            return FULL;
        }
        now.sights.add(new int[] {from, to});
        return now.sights.size();
    }

    int forget() {
        int were = now.sights.size();
        now.sights.clear();
        return were;
    }

    private List<Integer> fitting() {
        List<Integer> laws = new ArrayList<>();
        for (int law = 0; law < 256; law++) {
            boolean fits = true;
            for (int[] sight : now.sights) {
                fits &= GROWN[law][sight[0]] == sight[1];
            }
            if (fits) {
                laws.add(law);
            }
        }
        return laws;
    }

    int laws(int i) {
        List<Integer> laws = fitting();
        return i == -1 ? laws.size() : i < 0 || i >= laws.size() ? NONE : laws.get(i);
    }

    int look(int what) {
        if (out(what, 0, 1)) {
            return OUTSIDE;
        }
        List<Integer> laws = fitting();
        if (laws.isEmpty()) {
            return NONE;
        }
        int best = -1;
        int fewest = Integer.MAX_VALUE;
        for (int arm = 0; arm < 256; arm++) {
            int[] left = new int[256];
            for (int law : laws) {
                left[GROWN[law][arm]]++;
            }
            int most = Arrays.stream(left).max().getAsInt();
            if (most < fewest) {
                fewest = most;
                best = arm;
            }
        }
        return what == 0 ? best : fewest;
    }

    private static long ways(int at, int h, int a, int b, int to) {
        if (at < 0 || at > 15) {
            return to == -1 ? (long) Math.pow(10, h) : 0;
        }
        if (h == 0) {
            return at == to ? 1 : 0;
        }
        return a * ways(at - 1, h - 1, a, b, to) + b * ways(at + 1, h - 1, a, b, to)
            + (10 - a - b) * ways(at, h - 1, a, b, to);
    }

    long gusts(int from, int h, int a, int b, int to, int part) {
        if (out(from, 0, 15) || out(h, 0, 6) || out(a, 0, 10) || out(b, 0, 10) || a + b > 10 || out(to, -1, 15)
            || out(part, 0, 1)) {
            return GONE + OUTSIDE;
        }
        BigInteger upper = BigInteger.valueOf(ways(from, h, a, b, to));
        BigInteger lower = BigInteger.TEN.pow(h);
        BigInteger common = upper.gcd(lower);
        return (part == 0 ? upper : lower).divide(common).longValueExact();
    }

    private static boolean wins(int n, int just) {
        Boolean known = SPOONS.get(n * 4 + just);
        if (known != null) {
            return known;
        }
        boolean can = false;
        for (int k = 1; k <= 3; k++) {
            can |= k != just && k <= n && !wins(n - k, k);
        }
        SPOONS.put(n * 4 + just, can);
        return can;
    }

    int spoon(int n, int what) {
        if (out(n, 0, 60) || out(what, 0, 1)) {
            return OUTSIDE;
        }
        for (int k = 1; k <= 3 && k <= n; k++) {
            if (!wins(n - k, k)) {
                return what == 0 ? 1 : k;
            }
        }
        return what == 0 ? 0 : NONE;
    }

    int year(int seed, int m, int what) {
        if (out(seed, 0, 9999) || out(m, 1, 99) || out(what, 0, 2)) {
            return OUTSIDE;
        }
        World w = now.copy();
        long x = seed;
        for (int i = 0; i < m; i++) {
            x = (75 * x + 74) % 65537;
            char one = (char) ('A' + x / 8 % 6);
            String act = new String[] {"c", "d", "<", ">", ".", one + "<", one + ">", one + "u"}[(int) (x % 8)];
            if (can(w, act)) {
                act(w, act);
            }
        }
        int above = 0;
        for (int i = 0; i < 8; i++) {
            above += w.falls(i) ? 1 : 0;
        }
        return what == 0 ? Integer.bitCount(postedBits(w)) : what == 1 ? Integer.bitCount(riverBits(w)) : above;
    }

    int image(int k) {
        if (out(k, 0, 1)) {
            return OUTSIDE;
        }
        images[k] = now.copy();
        return 1;
    }

    int restore(int k) {
        if (out(k, 0, 1)) {
            return OUTSIDE;
        }
        if (images[k] == null) {
            return STATE;
        }
        now = images[k].copy();
        return 1;
    }

    int told(int what) {
        int there = 0;
        for (int i = 0; i < 8; i++) {
            there |= now.flakes[i] != null ? 1 << i : 0;
        }
        if (!out(what, 0, 5)) {
            return new int[] {pad.length(), there, now.laws[0], now.laws[1], now.sights.size(), riverBits(now)}[what];
        }
        for (int i = 0; i < 8; i++) {
            Flake f = now.flakes[i];
            if (f != null && !out(what, 10 * (1 + i), 10 * (1 + i) + 4)) {
                return new int[] {f.arm, f.place, f.height, f.one, f.with}[what - 10 * (1 + i)];
            }
        }
        for (int one = 0; one < 6; one++) {
            if (what == 100 + 10 * one) {
                return now.places[one];
            }
            if (what == 101 + 10 * one) {
                return now.umbrellas[one] ? 1 : 0;
            }
        }
        return OUTSIDE;
    }
}
