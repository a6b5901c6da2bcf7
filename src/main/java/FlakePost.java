import java.util.Arrays;

/** Flakes and whom they are for: the document's class. Refused calls answer a constant and change nothing. */
public final class FlakePost {
    public static final int UNKNOWN = -1, OUTSIDE = -2, STATE = -3, FULL = -4, NO = -5, NONE = -6;
    public static final long GONE = -1000000000000000000L;

    private static final int FLAKES = 8, ONES = 6, PLACES = 16, CELLS = 8, ARMS = 256, LAWS = 256;
    private static final int MOST_HEIGHT = 9, MOST_SIGHTS = 8, MOST_AIRS = 10, MOST_GUSTS = 6, IMAGES = 2;
    private static final int TENTHS = 10, MOST_SPOONFULS = 60, MOST_TAKEN = 3, MOST_SEED = 9999, MOST_YEAR = 99;

    // The numbers of the ACTS are those that a YEAR's draws have.
    private static final int COLD = 0, DAMP = 1, WIND_WEST = 2, WIND_EAST = 3, FALL = 4;
    private static final int STEP_WEST = 5, STEP_EAST = 6, UMBRELLA = 7, KINDS_OF_ACT = 8;

    private static final int FINE = 0, INTO_THE_RIVER = 1, NOTHING_FALLS = 2;

    private final Yard now = new Yard();
    private final Yard[] images = {new Yard(), new Yard()};
    private int imagesKept = 0;
    private final Pad pad = new Pad();
    private final Day day = new Day();
    private final AirSearch search = new AirSearch();
    private final GustRow gustRow = new GustRow();
    private final SpoonTable spoons = new SpoonTable();

    public FlakePost() {
    }

    // ---- 1 flakes, ones, airs

    public int flake(int flake, int arm, int place, int height, int one) {
        if (!isBelow(flake, FLAKES) || !isBelow(one, ONES)) {
            return UNKNOWN;
        }
        if (!isBelow(arm, ARMS) || !isBelow(place, PLACES) || !isBelow(height, MOST_HEIGHT + 1)) {
            return OUTSIDE;
        }
        now.putFlake(flake, arm, place, height, one);
        return Integer.bitCount(now.there);
    }

    public int melt(int flake) {
        if (!now.has(flake)) {
            return UNKNOWN;
        }
        now.removeFlake(flake);
        return Integer.bitCount(now.there);
    }

    public int stand(int one, int place) {
        if (!isBelow(one, ONES)) {
            return UNKNOWN;
        }
        if (!isBelow(place, PLACES)) {
            return OUTSIDE;
        }
        int was = now.standing[one];
        now.standing[one] = place;
        now.umbrellas &= ~(1 << one);
        return was;
    }

    public int air(int air, int law) {
        if (!isBelow(air, 2) || !isBelow(law, LAWS)) {
            return OUTSIDE;
        }
        int was = air == COLD ? now.coldLaw : now.dampLaw;
        if (air == COLD) {
            now.coldLaw = law;
        } else {
            now.dampLaw = law;
        }
        return was;
    }

    public int say(int sign) {
        if (sign < Pad.LEAST_SIGN || sign > Pad.MOST_SIGN) {
            return OUTSIDE;
        }
        return pad.add(sign) ? pad.count : FULL;
    }

    public int wipe() {
        int were = pad.count;
        pad.count = 0;
        return were;
    }

    public int fault() {
        return pad.readActs();
    }

    // ---- 2 days

    public int judge(int what) {
        if (!isBelow(what, 3)) {
            return OUTSIDE;
        }
        int refusal = refusalOfDays();
        if (refusal == NO) {
            return NO;
        }
        switch (what) {
            case 0:
                return day.badAct;
            case 1:
                return day.badWhy;
            default:
                return refusal == FINE ? day.cameDown() : STATE;
        }
    }

    public int behind(int flake, int what) {
        if (!now.has(flake)) {
            return UNKNOWN;
        }
        if (!isBelow(what, 4)) {
            return OUTSIDE;
        }
        int refusal = refusalOfDays();
        if (refusal != FINE) {
            return refusal;
        }
        switch (what) {
            case 0:
                return day.after.arm[flake];
            case 1:
                return day.after.place[flake];
            case 2:
                return day.after.height[flake];
            default:
                return day.after.with[flake];
        }
    }

    public int stands(int one, int what) {
        if (!isBelow(one, ONES)) {
            return UNKNOWN;
        }
        if (!isBelow(what, 3)) {
            return OUTSIDE;
        }
        int refusal = refusalOfDays();
        if (refusal != FINE) {
            return refusal;
        }
        switch (what) {
            case 0:
                return day.after.standing[one];
            case 1:
                return bit(day.after.umbrellas, one);
            default:
                return day.after.flakesWith(one);
        }
    }

    public int posted(int what) {
        if (!isBelow(what, 3)) {
            return OUTSIDE;
        }
        int refusal = refusalOfDays();
        if (refusal != FINE) {
            return refusal;
        }
        switch (what) {
            case 0:
                return day.after.delivered();
            case 1:
                return day.firstDelivery;
            default:
                return Integer.bitCount(day.after.inRiver());
        }
    }

    public int done() {
        int refusal = refusalOfDays();
        if (refusal != FINE) {
            return refusal;
        }
        now.copy(day.after);
        pad.count = 0;
        return pad.acts;
    }

    public int says(int arm) {
        return isBelow(arm, ARMS) ? Growth.readAloud(arm) : OUTSIDE;
    }

    // ---- 3 airs, patches

    public long grew(int from, int to, int n, int what) {
        if (!isBelow(from, ARMS) || !isBelow(to, ARMS) || !isBelow(n, MOST_AIRS + 1) || !isBelow(what, 2)) {
            return OUTSIDE;
        }
        if (what == 0) {
            return Growth.rows(from, to, n, now.coldLaw, now.dampLaw);
        }
        return Growth.firstRow(from, to, n, now.coldLaw, now.dampLaw);
    }

    public int soon(int from, int to) {
        if (!isBelow(from, ARMS) || !isBelow(to, ARMS)) {
            return OUTSIDE;
        }
        return search.fewestAirs(from, to, now.coldLaw, now.dampLaw);
    }

    public int most(int what) {
        if (!isBelow(what, 2)) {
            return OUTSIDE;
        }
        return what == 0 ? Catches.byAddressees(now) : Catches.byWhoever(now);
    }

    public int patch(int what) {
        if (!isBelow(what, 2)) {
            return OUTSIDE;
        }
        int trodden = now.trodden();
        int first = NONE;
        int widest = 0;
        int wide = 0;
        for (int place = 0; place < PLACES; place++) {
            wide = bit(trodden, place) == 1 ? 0 : wide + 1;
            if (wide > widest) {
                widest = wide;
                first = place - wide + 1;
            }
        }
        return what == 0 ? widest : first;
    }

    // ---- 4 laws, gusts, spoons

    public int seen(int from, int to) {
        if (!isBelow(from, ARMS) || !isBelow(to, ARMS)) {
            return OUTSIDE;
        }
        if (now.sights >= MOST_SIGHTS) {
            return FULL;
        }
        now.addSight(from, to);
        return now.sights;
    }

    public int forget() {
        int were = now.sights;
        now.sights = 0;
        now.lawHas = 0;
        now.lawLacks = 0;
        return were;
    }

    public int laws(int i) {
        int fitting = 0;
        for (int law = 0; law < LAWS; law++) {
            if (now.fits(law)) {
                if (fitting == i) {
                    return law;
                }
                fitting++;
            }
        }
        return i == -1 ? fitting : NONE;
    }

    public int look(int what) {
        if (!isBelow(what, 2)) {
            return OUTSIDE;
        }
        if ((now.lawHas & now.lawLacks) != 0) {
            return NONE;
        }
        int best = 0;
        int fewest = LAWS + 1;
        for (int arm = 0; arm < ARMS; arm++) {
            int left = now.lawsLeftBy(arm);
            if (left < fewest) {
                fewest = left;
                best = arm;
            }
        }
        return what == 0 ? best : fewest;
    }

    public long gusts(int from, int h, int a, int b, int to, int part) {
        boolean told = isBelow(from, PLACES) && isBelow(h, MOST_GUSTS + 1)
            && isBelow(a, TENTHS + 1) && isBelow(b, TENTHS + 1) && a + b <= TENTHS
            && (to == -1 || isBelow(to, PLACES)) && isBelow(part, 2);
        if (!told) {
            return GONE + OUTSIDE;
        }
        gustRow.fall(from, h, a, b);
        return gustRow.chance(to, h, part);
    }

    public int spoon(int n, int what) {
        if (!isBelow(n, MOST_SPOONFULS + 1) || !isBelow(what, 2)) {
            return OUTSIDE;
        }
        int taken = spoons.winningTake(n, 0);
        if (what == 0) {
            return taken == NONE ? 0 : 1;
        }
        return taken;
    }

    public int year(int seed, int m, int what) {
        if (!isBelow(seed, MOST_SEED + 1) || m < 1 || m > MOST_YEAR || !isBelow(what, 3)) {
            return OUTSIDE;
        }
        day.dreamYear(now, seed, m);
        switch (what) {
            case 0:
                return Integer.bitCount(day.after.delivered());
            case 1:
                return Integer.bitCount(day.after.inRiver());
            default:
                return Integer.bitCount(day.after.falling());
        }
    }

    public int image(int k) {
        if (!isBelow(k, IMAGES)) {
            return OUTSIDE;
        }
        images[k].copy(now);
        imagesKept |= 1 << k;
        return 1;
    }

    public int restore(int k) {
        if (!isBelow(k, IMAGES)) {
            return OUTSIDE;
        }
        if (bit(imagesKept, k) == 0) {
            return STATE;
        }
        now.copy(images[k]);
        return 1;
    }

    public int told(int what) {
        if (what >= 100) {
            return toldOfOne(what / 10 - 10, what % 10);
        }
        if (what >= 10) {
            return toldOfFlake(what / 10 - 1, what % 10);
        }
        switch (what) {
            case 0:
                return pad.count;
            case 1:
                return now.there;
            case 2:
                return now.coldLaw;
            case 3:
                return now.dampLaw;
            case 4:
                return now.sights;
            case 5:
                return now.inRiver();
            default:
                return OUTSIDE;
        }
    }

    private int toldOfFlake(int flake, int part) {
        if (!now.has(flake)) {
            return OUTSIDE;
        }
        switch (part) {
            case 0:
                return now.arm[flake];
            case 1:
                return now.place[flake];
            case 2:
                return now.height[flake];
            case 3:
                return now.addressee[flake];
            case 4:
                return now.with[flake];
            default:
                return OUTSIDE;
        }
    }

    private int toldOfOne(int one, int part) {
        if (!isBelow(one, ONES) || !isBelow(part, 2)) {
            return OUTSIDE;
        }
        return part == 0 ? now.standing[one] : bit(now.umbrellas, one);
    }

    /** Lives the PAD's DAYS into 'day'; NO, STATE, or FINE. After NO, 'day' tells nothing. */
    private int refusalOfDays() {
        if (pad.readActs() != NONE) {
            return NO;
        }
        day.live(now, pad);
        return day.badAct == NONE ? FINE : STATE;
    }

    private static boolean isBelow(int number, int limit) {
        return number >= 0 && number < limit;
    }

    private static int bit(int bits, int number) {
        return bits >> number & 1;
    }

    /** All that an IMAGE keeps: FLAKES, ONES, AIRS and SIGHTS. */
    private static final class Yard {
        private int there = 0;
        private final int[] arm = new int[FLAKES];
        private final int[] place = new int[FLAKES];
        private final int[] height = new int[FLAKES];
        private final int[] addressee = new int[FLAKES];
        private final int[] with = new int[FLAKES];
        private final int[] standing = new int[ONES];
        private int umbrellas = 0;
        private int coldLaw = 90;
        private int dampLaw = 30;
        private int sights = 0;
        // What the SIGHTS tell of the LAW: its bits that are 1, and those that are 0.
        private int lawHas = 0;
        private int lawLacks = 0;

        private Yard() {
            for (int one = 0; one < ONES; one++) {
                standing[one] = one;
            }
        }

        private void copy(Yard other) {
            there = other.there;
            System.arraycopy(other.arm, 0, arm, 0, FLAKES);
            System.arraycopy(other.place, 0, place, 0, FLAKES);
            System.arraycopy(other.height, 0, height, 0, FLAKES);
            System.arraycopy(other.addressee, 0, addressee, 0, FLAKES);
            System.arraycopy(other.with, 0, with, 0, FLAKES);
            System.arraycopy(other.standing, 0, standing, 0, ONES);
            umbrellas = other.umbrellas;
            coldLaw = other.coldLaw;
            dampLaw = other.dampLaw;
            sights = other.sights;
            lawHas = other.lawHas;
            lawLacks = other.lawLacks;
        }

        private boolean has(int flake) {
            return isBelow(flake, FLAKES) && bit(there, flake) == 1;
        }

        private void putFlake(int flake, int itsArm, int itsPlace, int itsHeight, int one) {
            there |= 1 << flake;
            arm[flake] = itsArm;
            place[flake] = itsPlace;
            height[flake] = itsHeight;
            addressee[flake] = one;
            with[flake] = NONE;
        }

        /** Its HEIGHT is 0 then, so that a HEIGHT above 0 is enough to tell that a FLAKE falls. */
        private void removeFlake(int flake) {
            there &= ~(1 << flake);
            height[flake] = 0;
        }

        private int falling() {
            int flakes = 0;
            for (int flake = 0; flake < FLAKES; flake++) {
                if (height[flake] > 0) {
                    flakes |= 1 << flake;
                }
            }
            return flakes;
        }

        private int inRiver() {
            int flakes = 0;
            for (int flake = 0; flake < FLAKES; flake++) {
                if (place[flake] == NONE) {
                    flakes |= 1 << flake;
                }
            }
            return flakes & there;
        }

        private int down() {
            return there & ~falling() & ~inRiver();
        }

        private int flakesWith(int one) {
            int flakes = 0;
            for (int flake = 0; flake < FLAKES; flake++) {
                if (with[flake] == one) {
                    flakes |= 1 << flake;
                }
            }
            return flakes & there;
        }

        private int delivered() {
            int flakes = 0;
            for (int flake = 0; flake < FLAKES; flake++) {
                if (with[flake] == addressee[flake]) {
                    flakes |= 1 << flake;
                }
            }
            return flakes & there;
        }

        /** The PLACES where somebody stands, or a FLAKE lies. */
        private int trodden() {
            int places = 0;
            for (int one = 0; one < ONES; one++) {
                places |= 1 << standing[one];
            }
            int lying = down() & flakesWith(NONE);
            for (int flake = 0; flake < FLAKES; flake++) {
                if (bit(lying, flake) == 1) {
                    places |= 1 << place[flake];
                }
            }
            return places;
        }

        private int whyNot(int kind, int one) {
            switch (kind) {
                case STEP_WEST:
                    return standing[one] == 0 ? INTO_THE_RIVER : FINE;
                case STEP_EAST:
                    return standing[one] == PLACES - 1 ? INTO_THE_RIVER : FINE;
                case UMBRELLA:
                    return FINE;
                default:
                    return falling() == 0 ? NOTHING_FALLS : FINE;
            }
        }

        /** Only an ACT that can be is carried out; 'one' is looked at by a ONE's ACTS alone. */
        private void carryOut(int kind, int one) {
            switch (kind) {
                case STEP_WEST:
                    standing[one]--;
                    break;
                case STEP_EAST:
                    standing[one]++;
                    break;
                case UMBRELLA:
                    umbrellas ^= 1 << one;
                    break;
                case COLD:
                    growAll(coldLaw);
                    break;
                case DAMP:
                    growAll(dampLaw);
                    break;
                case WIND_WEST:
                    blowAll(-1);
                    break;
                case WIND_EAST:
                    blowAll(1);
                    break;
                default:
                    lowerAll();
                    break;
            }
        }

        private void growAll(int law) {
            for (int flake = 0; flake < FLAKES; flake++) {
                if (height[flake] > 0) {
                    arm[flake] = Growth.grown(arm[flake], law);
                }
            }
        }

        private void blowAll(int step) {
            for (int flake = 0; flake < FLAKES; flake++) {
                if (height[flake] > 0) {
                    blow(flake, place[flake] + step);
                }
            }
        }

        private void blow(int flake, int to) {
            if (isBelow(to, PLACES)) {
                place[flake] = to;
            } else {
                place[flake] = NONE;
                height[flake] = 0;
            }
        }

        private void lowerAll() {
            for (int flake = 0; flake < FLAKES; flake++) {
                if (height[flake] > 0) {
                    height[flake]--;
                    with[flake] = height[flake] == 0 ? catcherAt(place[flake]) : NONE;
                }
            }
        }

        private int catcherAt(int where) {
            for (int one = 0; one < ONES; one++) {
                if (standing[one] == where && bit(umbrellas, one) == 0) {
                    return one;
                }
            }
            return NONE;
        }

        /** Each cell of a SIGHT tells one bit of the LAW. */
        private void addSight(int from, int to) {
            for (int cell = 0; cell < CELLS; cell++) {
                int lawBit = 1 << Growth.around(from, cell);
                if (bit(to, cell) == 1) {
                    lawHas |= lawBit;
                } else {
                    lawLacks |= lawBit;
                }
            }
            sights++;
        }

        private boolean fits(int law) {
            return (law & lawHas) == lawHas && (law & lawLacks) == 0;
        }

        /**
         * What an ARM becomes tells just those bits of the LAW that its cells ask for: whatever it
         * becomes, as many LAWS are left as the bits that nobody has seen yet leave.
         */
        private int lawsLeftBy(int looked) {
            int told = lawHas | lawLacks;
            for (int cell = 0; cell < CELLS; cell++) {
                told |= 1 << Growth.around(looked, cell);
            }
            return 1 << (CELLS - Integer.bitCount(told));
        }
    }

    /** The signs that have been said, and the ACTS that they are. */
    private static final class Pad {
        private static final int LEAST_SIGN = 33, MOST_SIGN = 126, MOST_SIGNS = 60;

        private final int[] signs = new int[MOST_SIGNS];
        private int count = 0;
        private final int[] kinds = new int[MOST_SIGNS];
        private final int[] ones = new int[MOST_SIGNS];
        private int acts = 0;

        private boolean add(int sign) {
            if (count >= MOST_SIGNS) {
                return false;
            }
            signs[count] = sign;
            count++;
            return true;
        }

        /** THE FAULT, or NONE: then all ACTS are in their rows. */
        private int readActs() {
            acts = 0;
            int one = NONE;
            for (int at = 0; at < count; at++) {
                if (one == NONE && oneOf(signs[at]) != NONE) {
                    one = oneOf(signs[at]);
                } else {
                    int kind = one == NONE ? weatherOf(signs[at]) : deedOf(signs[at]);
                    if (kind == NONE) {
                        return at;
                    }
                    kinds[acts] = kind;
                    ones[acts] = one;
                    acts++;
                    one = NONE;
                }
            }
            return one == NONE ? NONE : count;
        }

        private static int oneOf(int sign) {
            return sign >= 'A' && sign < 'A' + ONES ? sign - 'A' : NONE;
        }

        private static int weatherOf(int sign) {
            switch (sign) {
                case 'c':
                    return COLD;
                case 'd':
                    return DAMP;
                case '<':
                    return WIND_WEST;
                case '>':
                    return WIND_EAST;
                case '.':
                    return FALL;
                default:
                    return NONE;
            }
        }

        private static int deedOf(int sign) {
            switch (sign) {
                case '<':
                    return STEP_WEST;
                case '>':
                    return STEP_EAST;
                case 'u':
                    return UMBRELLA;
                default:
                    return NONE;
            }
        }
    }

    /** DAYS, or a YEAR, lived on a copy: how all stands behind them, and what was noted on the way. */
    private static final class Day {
        private final Yard after = new Yard();
        private int badAct = NONE;
        private int badWhy = NONE;
        private int firstDelivery = NONE;
        private int downAtFirst = 0;

        /** The PAD's ACTS have been read. Ends at the first one that can not be. */
        private void live(Yard start, Pad pad) {
            begin(start);
            for (int act = 0; act < pad.acts && badAct == NONE; act++) {
                int why = after.whyNot(pad.kinds[act], pad.ones[act]);
                if (why == FINE) {
                    int before = after.delivered();
                    after.carryOut(pad.kinds[act], pad.ones[act]);
                    if (firstDelivery == NONE && after.delivered() != before) {
                        firstDelivery = act;
                    }
                } else {
                    badAct = act;
                    badWhy = why;
                }
            }
        }

        private void begin(Yard start) {
            after.copy(start);
            badAct = NONE;
            badWhy = NONE;
            firstDelivery = NONE;
            downAtFirst = after.down();
        }

        private int cameDown() {
            return Integer.bitCount(after.down() & ~downAtFirst);
        }

        private void dreamYear(Yard start, int seed, int draws) {
            after.copy(start);
            int x = seed;
            for (int draw = 0; draw < draws; draw++) {
                x = (75 * x + 74) % 65537;
                int kind = x % KINDS_OF_ACT;
                int one = x / KINDS_OF_ACT % ONES;
                if (after.whyNot(kind, one) == FINE) {
                    after.carryOut(kind, one);
                }
            }
        }
    }

    /** How ARMS grow, and how they are read. */
    private static final class Growth {
        /** The number of the LAW's bit that a cell asks for: the one ahead counts 1, itself 2, the next 4. */
        private static int around(int arm, int cell) {
            return arm << 1 >> cell & 7;
        }

        private static int grown(int arm, int law) {
            int next = 0;
            for (int cell = 0; cell < CELLS; cell++) {
                next |= bit(law, around(arm, cell)) << cell;
            }
            return next;
        }

        private static int readAloud(int arm) {
            int said = 0;
            int alike = 0;
            for (int cell = 0; cell < CELLS; cell++) {
                alike++;
                if (cell == CELLS - 1 || bit(arm, cell) != bit(arm, cell + 1)) {
                    said = said * 10 + alike;
                    alike = 0;
                }
            }
            return said;
        }

        /** How many rows of n AIRS; n is 10 at the most, and so is the depth. */
        private static int rows(int from, int to, int n, int cold, int damp) {
            if (n <= 0) {
                return from == to ? 1 : 0;
            }
            return rows(grown(from, cold), to, n - 1, cold, damp) + rows(grown(from, damp), to, n - 1, cold, damp);
        }

        private static long firstRow(int from, int to, int n, int cold, int damp) {
            if (rows(from, to, n, cold, damp) == 0) {
                return NONE;
            }
            long row = 0;
            int arm = from;
            for (int left = n - 1; left >= 0; left--) {
                int colder = grown(arm, cold);
                boolean byCold = rows(colder, to, left, cold, damp) > 0;
                row = row * 10 + (byCold ? 1 : 2);
                arm = byCold ? colder : grown(arm, damp);
            }
            return row;
        }
    }

    /** The fewest AIRS; its rows are kept so that no call makes new ones. */
    private static final class AirSearch {
        private final int[] airs = new int[ARMS];
        private final int[] queue = new int[ARMS];
        private int waiting = 0;

        private int fewestAirs(int from, int to, int cold, int damp) {
            Arrays.fill(airs, NONE);
            waiting = 0;
            reach(from, 0);
            for (int next = 0; next < ARMS && next < waiting && airs[to] == NONE; next++) {
                int arm = queue[next];
                reach(Growth.grown(arm, cold), airs[arm] + 1);
                reach(Growth.grown(arm, damp), airs[arm] + 1);
            }
            return airs[to];
        }

        private void reach(int arm, int after) {
            if (airs[arm] == NONE && waiting < ARMS) {
                airs[arm] = after;
                queue[waiting] = arm;
                waiting++;
            }
        }
    }

    /** The most FLAKES that can be got, each ONE one at the most. */
    private static final class Catches {
        private static boolean canGet(Yard yard, int one, int flake) {
            int height = yard.height[flake];
            return height > 0 && Math.abs(yard.standing[one] - yard.place[flake]) <= height;
        }

        private static int byAddressees(Yard yard) {
            int lucky = 0;
            for (int flake = 0; flake < FLAKES; flake++) {
                int one = yard.addressee[flake];
                if (canGet(yard, one, flake)) {
                    lucky |= 1 << one;
                }
            }
            return Integer.bitCount(lucky);
        }

        /** Bit s of 'crowds' is 1: the ONES whose bits s has can get a FLAKE each. */
        private static int byWhoever(Yard yard) {
            long crowds = 1;
            for (int flake = 0; flake < FLAKES; flake++) {
                long more = crowds;
                for (int one = 0; one < ONES; one++) {
                    if (canGet(yard, one, flake)) {
                        more |= joinedBy(one, crowds);
                    }
                }
                crowds = more;
            }
            int most = 0;
            for (int crowd = 0; crowd < 1 << ONES; crowd++) {
                if ((crowds >> crowd & 1) == 1) {
                    most = Math.max(most, Integer.bitCount(crowd));
                }
            }
            return most;
        }

        private static long joinedBy(int one, long crowds) {
            long joined = 0;
            for (int crowd = 0; crowd < 1 << ONES; crowd++) {
                if ((crowds >> crowd & 1) == 1 && bit(crowd, one) == 0) {
                    joined |= 1L << (crowd | 1 << one);
                }
            }
            return joined;
        }
    }

    /** How often, of 10 to the h-th ways, a falling FLAKE is at each PLACE. */
    private static final class GustRow {
        private final int[] ways = new int[PLACES];

        private void fall(int from, int h, int west, int east) {
            Arrays.fill(ways, 0);
            ways[from] = 1;
            for (int fallen = 0; fallen < h; fallen++) {
                int westward = 0;
                for (int place = 0; place < PLACES; place++) {
                    int here = ways[place];
                    int eastward = place == PLACES - 1 ? 0 : ways[place + 1];
                    ways[place] = here * (TENTHS - west - east) + westward * east + eastward * west;
                    westward = here;
                }
            }
        }

        private long chance(int to, int h, int part) {
            int lower = 1;
            for (int fallen = 0; fallen < h; fallen++) {
                lower *= TENTHS;
            }
            int upper = to == -1 ? lower - all() : ways[to];
            // The lower number has no divisors but 2 and 5, each h times.
            for (int fallen = 0; fallen < h; fallen++) {
                if (upper % 2 == 0 && lower % 2 == 0) {
                    upper /= 2;
                    lower /= 2;
                }
                if (upper % 5 == 0 && lower % 5 == 0) {
                    upper /= 5;
                    lower /= 5;
                }
            }
            return part == 0 ? upper : lower;
        }

        private int all() {
            int sum = 0;
            for (int place = 0; place < PLACES; place++) {
                sum += ways[place];
            }
            return sum;
        }
    }

    /** Who wins with how many spoonfuls left: worked out once, from few to many. */
    private static final class SpoonTable {
        // Bit k of an element: who is to take wins, if the other one just took k (0: nobody took yet).
        private final int[] wins = new int[MOST_SPOONFULS + 1];

        private SpoonTable() {
            for (int n = 0; n <= MOST_SPOONFULS; n++) {
                for (int justTaken = 0; justTaken <= MOST_TAKEN; justTaken++) {
                    if (winningTake(n, justTaken) != NONE) {
                        wins[n] |= 1 << justTaken;
                    }
                }
            }
        }

        /** The least that wins; NONE. */
        private int winningTake(int n, int justTaken) {
            for (int take = 1; take <= MOST_TAKEN && take <= n; take++) {
                if (take != justTaken && bit(wins[n - take], take) == 0) {
                    return take;
                }
            }
            return NONE;
        }
    }
}
