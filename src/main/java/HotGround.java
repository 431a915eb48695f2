/** Wells, the plant they feed, the boxes under the ground, what comes back, and which wells to drill. */
public final class HotGround {
    public static final int BAD = -1, STATE = -2, FULL = -3, NONE = -9;

    private static final int TOP = 20;

    private final Wells wells;
    private final Plant plant;
    private final Ground ground;
    private final Kernel kernel;
    private final Offers offers;
    private long trace;

    public HotGround() {
        wells = new Wells();
        plant = new Plant();
        ground = new Ground();
        kernel = new Kernel();
        offers = new Offers();
        trace = 0;
    }

    // ---- wells, the plant

    public int well(int kind, int box, int a, int b, int c, int d, int e) {
        if (!within(kind, 0, Wells.TESTED) || !within(box, 0, Ground.BOXES - 1)) {
            return BAD;
        }
        if (!within(a, 0, Wells.HIGHEST) || !within(b, 0, a) || !within(c, 0, b)
                || !within(d, 0, c) || !within(e, 0, d)) {
            return BAD;
        }
        if (wells.count >= Wells.ROOM) {
            return FULL;
        }
        int number = wells.add(kind, box);
        wells.shape(number, a, b, c, d, e);
        return number;
    }

    public int open(int well, boolean is) {
        if (!isWell(well)) {
            return BAD;
        }
        boolean was = wells.open[well];
        wells.open[well] = is;
        return was ? 1 : 0;
    }

    public int clean(int well) {
        if (!isWell(well)) {
            return BAD;
        }
        int was = wells.age[well];
        wells.age[well] = 0;
        return was;
    }

    public int flow(int well, int p) {
        if (!isWell(well) || !isPressure(p)) {
            return BAD;
        }
        trace += wells.weight(well);
        return wells.fifths(well, p);
    }

    public int about(int well, int what) {
        if (!isWell(well) || !within(what, 0, 8)) {
            return BAD;
        }
        switch (what) {
            case 0:
                return wells.kind[well];
            case 1:
                return wells.box[well];
            case 2:
                return wells.age[well];
            case 3:
                return wells.open[well] ? 1 : 0;
            default:
                return wells.corners[well * Wells.CORNERS + what - 4];
        }
    }

    public int turbine(int least, int rate, int most) {
        if (!isPressure(least) || !within(rate, 1, 40) || !within(most, 1, 2000)) {
            return BAD;
        }
        if (plant.count >= Plant.ROOM) {
            return FULL;
        }
        return plant.add(least, rate, most);
    }

    public int on(int turbine, boolean is) {
        if (!within(turbine, 0, plant.count - 1)) {
            return BAD;
        }
        boolean was = plant.on[turbine];
        plant.on[turbine] = is;
        return was ? 1 : 0;
    }

    public int at(int what, int p) {
        if (!within(what, 0, 2) || !isPressure(p)) {
            return BAD;
        }
        switch (what) {
            case 0:
                return wells.supply(p);
            case 1:
                return plant.draw(p);
            default:
                return wells.water(p);
        }
    }

    public int point() {
        return meeting();
    }

    // ---- boxes, years

    public int fill(int box, int mass, int heat) {
        if (!isBox(box) || !within(mass, 0, Ground.FILL) || !within(heat, 0, Ground.FILL)) {
            return BAD;
        }
        ground.mass[box] = mass;
        ground.heat[box] = heat;
        return 1;
    }

    public int set(int what, int which, int v) {
        switch (what) {
            case 0:
                return setLeak(which, v);
            case 1:
                return setFeed(which, v);
            case 2:
                return which == 0 ? setGivenShare(v) : which == 1 ? setGivenBox(v) : BAD;
            default:
                return BAD;
        }
    }

    public int year(int n) {
        if (!within(n, 1, 20)) {
            return BAD;
        }
        for (int i = 0; i < n; i++) {
            passYear();
        }
        return (int) ground.sums[Ground.YEARS];
    }

    public long box(int box, int what) {
        if (!isBox(box) || !within(what, 0, 1)) {
            return BAD;
        }
        return what == 0 ? ground.mass[box] : ground.heat[box];
    }

    public long sum(int what) {
        if (!within(what, 0, Ground.SUMS - 1)) {
            return BAD;
        }
        return ground.sums[what];
    }

    // ---- what comes back

    public int share(int k, int v) {
        if (!within(k, 0, Kernel.SHARES - 1) || !within(v, 0, 1000)) {
            return BAD;
        }
        int was = kernel.shares[k];
        if (kernel.together() - was + v > 1000) {
            return BAD;
        }
        kernel.shares[k] = v;
        return was;
    }

    public int put(int amount) {
        if (!within(amount, 0, 1000000)) {
            return BAD;
        }
        if (kernel.count >= Kernel.ROOM) {
            return FULL;
        }
        kernel.amounts[kernel.count] = amount;
        kernel.count++;
        return kernel.count;
    }

    public int back(int year) {
        if (!within(year, 0, Kernel.LAST)) {
            return BAD;
        }
        return kernel.comes(year);
    }

    public int cut() {
        if (kernel.count <= 0) {
            return STATE;
        }
        kernel.count--;
        return kernel.count;
    }

    // ---- the plan

    public int candidate(int cost, int year, int steam) {
        if (!within(cost, 1, 1000) || !isPlanYear(year) || !within(steam, 1, 500)) {
            return BAD;
        }
        if (offers.count >= Offers.ROOM) {
            return FULL;
        }
        return offers.add(cost, year, steam);
    }

    public int promise(int year, int v) {
        if (!isPlanYear(year) || !within(v, 0, 3000)) {
            return BAD;
        }
        int was = offers.promised[year];
        offers.promised[year] = v;
        return was;
    }

    public int plan(int what) {
        if (!within(what, 0, 1)) {
            return BAD;
        }
        int best = offers.cheapest();
        if (best == NONE) {
            return NONE;
        }
        return what == 0 ? best : offers.price(best);
    }

    public int lacks(int set, int year) {
        if (!within(set, 0, offers.sets() - 1) || !isPlanYear(year)) {
            return BAD;
        }
        return offers.missing(set, year);
    }

    public int count(int what) {
        switch (what) {
            case 0:
                return wells.count;
            case 1:
                return plant.count;
            case 2:
                return offers.count;
            case 3:
                return kernel.count;
            case 4:
                return trues(wells.open, wells.count);
            case 5:
                return trues(plant.on, plant.count);
            default:
                return BAD;
        }
    }

    public long trace() {
        return trace;
    }

    // ---- what the calls share

    private static boolean within(int v, int least, int most) {
        return v >= least && v <= most;
    }

    private static boolean isPressure(int p) {
        return within(p, 0, TOP);
    }

    private static boolean isBox(int box) {
        return within(box, 0, Ground.BOXES - 1);
    }

    private static boolean isPlanYear(int year) {
        return within(year, 0, Offers.YEARS - 1);
    }

    private boolean isWell(int well) {
        return within(well, 0, wells.count - 1);
    }

    private static int trues(boolean[] row, int length) {
        int found = 0;
        for (int i = 0; i < length; i++) {
            if (row[i]) {
                found++;
            }
        }
        return found;
    }

    private int setLeak(int which, int v) {
        if (!within(which, 0, Ground.LEAKS - 1) || !within(v, 2, 1000)) {
            return BAD;
        }
        int was = ground.leak[which];
        ground.leak[which] = v;
        return was;
    }

    private int setFeed(int which, int v) {
        if (!isBox(which) || !within(v, 0, 1000)) {
            return BAD;
        }
        int was = ground.feed[which];
        ground.feed[which] = v;
        return was;
    }

    private int setGivenShare(int v) {
        if (!within(v, 0, 1000)) {
            return BAD;
        }
        int was = ground.givenShare;
        ground.givenShare = v;
        return was;
    }

    private int setGivenBox(int v) {
        if (!isBox(v)) {
            return BAD;
        }
        int was = ground.givenBox;
        ground.givenBox = v;
        return was;
    }

    /** The greatest pressure at which the wells bear the plant; found first when looked for from the top. */
    private int meeting() {
        for (int p = TOP; p >= 0; p--) {
            if (wells.supply(p) >= plant.draw(p)) {
                return p;
            }
        }
        return NONE;
    }

    private void passYear() {
        int p = meeting();
        if (p == NONE) {
            ground.sums[Ground.IDLE]++;
        } else {
            ground.sums[Ground.BOUGHT] += plant.draw(p);
            ground.giveBack(takeAll(p));
        }
        ground.leakAll();
        ground.feedAll();
        wells.grow();
        ground.sums[Ground.YEARS]++;
    }

    private long takeAll(int p) {
        long taken = 0;
        for (int w = 0; w < wells.count; w++) {
            if (wells.open[w]) {
                taken += ground.take(wells.box[w], wells.fifths(w, p));
            }
        }
        return taken;
    }

    /** The wells, a row for each thing that is told of them. */
    private static final class Wells {
        static final int ROOM = 8, CORNERS = 5, HIGHEST = 200;
        static final int SCALED = 1, TESTED = 2;

        int count;
        final int[] kind = new int[ROOM];
        final int[] box = new int[ROOM];
        final int[] age = new int[ROOM];
        final boolean[] open = new boolean[ROOM];
        final int[] corners = new int[ROOM * CORNERS];

        int add(int itsKind, int itsBox) {
            int number = count;
            kind[number] = itsKind;
            box[number] = itsBox;
            count++;
            return number;
        }

        void shape(int well, int a, int b, int c, int d, int e) {
            int first = well * CORNERS;
            corners[first] = a;
            corners[first + 1] = b;
            corners[first + 2] = c;
            corners[first + 3] = d;
            corners[first + 4] = e;
        }

        /** What one asking of the well's flow brings to the trace: each kind asks all that stand over it. */
        int weight(int well) {
            int weight = 1;
            if (kind[well] >= SCALED) {
                weight += 10;
            }
            if (kind[well] >= TESTED) {
                weight += 100;
            }
            return weight;
        }

        /** The flow in fifths: the uppermost kind's, then what each kind below makes of it. */
        int fifths(int well, int p) {
            int flow = plain(well, p);
            if (kind[well] >= SCALED) {
                flow = scaled(flow, age[well]);
            }
            if (kind[well] >= TESTED) {
                flow = tested(flow);
            }
            return flow;
        }

        private int plain(int well, int p) {
            int left = well * CORNERS + p / 5;
            int r = p % 5;
            int flow = (5 - r) * corners[left];
            // at the last corner there is no next one
            return r == 0 ? flow : flow + r * corners[left + 1];
        }

        private static int scaled(int up, int years) {
            return years >= 20 ? 0 : up * (20 - years) / 20;
        }

        private static int tested(int up) {
            return Math.min(up, 1000);
        }

        private static int steam(int flow, int p) {
            return flow * (300 - 5 * p) / 1000;
        }

        int supply(int p) {
            int all = 0;
            for (int w = 0; w < count; w++) {
                if (open[w]) {
                    // each for itself: rounded before it is added
                    all += steam(fifths(w, p), p);
                }
            }
            return all;
        }

        int water(int p) {
            int all = 0;
            for (int w = 0; w < count; w++) {
                if (open[w]) {
                    int flow = fifths(w, p);
                    all += flow - steam(flow, p);
                }
            }
            return all;
        }

        void grow() {
            for (int w = 0; w < count; w++) {
                if (open[w]) {
                    age[w]++;
                }
            }
        }
    }

    /** The turbines. */
    private static final class Plant {
        static final int ROOM = 4;

        int count;
        final int[] least = new int[ROOM];
        final int[] rate = new int[ROOM];
        final int[] most = new int[ROOM];
        final boolean[] on = new boolean[ROOM];

        int add(int itsLeast, int itsRate, int itsMost) {
            int number = count;
            least[number] = itsLeast;
            rate[number] = itsRate;
            most[number] = itsMost;
            on[number] = true;
            count++;
            return number;
        }

        int draw(int p) {
            int all = 0;
            for (int t = 0; t < count; t++) {
                if (on[t] && p >= least[t]) {
                    all += Math.min(rate[t] * (p + 1), most[t]);
                }
            }
            return all;
        }
    }

    /** The boxes, what goes in and out of them, and what was ever summed. */
    private static final class Ground {
        static final int BOXES = 4, LEAKS = 3, FILL = 10000000;
        static final int TAKEN = 0, GIVEN = 2, FED = 4, BOUGHT = 6, YEARS = 7, IDLE = 8, SUMS = 9;

        // long: masses and heats grow beyond what may be told, and are multiplied
        final long[] mass = new long[BOXES];
        final long[] heat = new long[BOXES];
        final int[] feed = new int[BOXES];
        final int[] leak = {1000, 1000, 1000};
        int givenShare;
        int givenBox;
        final long[] sums = new long[SUMS];

        /**
         * The heat that a part of a box's mass bears, of the box as it is. In 512 calls no mass passes 2 to the 27th and no
         * heat 2 to the 34th, so the product stays a long.
         */
        private long heatOf(int box, long part) {
            return mass[box] <= 0 ? 0 : part * heat[box] / mass[box];
        }

        long take(int box, long wanted) {
            long part = Math.min(wanted, mass[box]);
            long warmth = heatOf(box, part);
            mass[box] -= part;
            heat[box] -= warmth;
            book(TAKEN, part, warmth);
            return part;
        }

        void giveBack(long taken) {
            long part = taken * givenShare / 1000;
            pour(givenBox, part, part * 40);
            book(GIVEN, part, part * 40);
        }

        void leakAll() {
            for (int i = 0; i < LEAKS; i++) {
                boolean forth = mass[i] >= mass[i + 1];
                int from = forth ? i : i + 1;
                int to = forth ? i + 1 : i;
                // no leak is told below 2; yet a divisor is looked at where it divides
                long part = leak[i] <= 0 ? 0 : (mass[from] - mass[to]) / leak[i];
                long warmth = heatOf(from, part);
                pour(from, -part, -warmth);
                pour(to, part, warmth);
            }
        }

        void feedAll() {
            for (int i = 0; i < BOXES; i++) {
                long part = feed[i];
                pour(i, part, part * 10);
                book(FED, part, part * 10);
            }
        }

        private void pour(int box, long part, long warmth) {
            mass[box] += part;
            heat[box] += warmth;
        }

        /** A mass stands in the sums at a place, its heat at the next. */
        private void book(int place, long part, long warmth) {
            sums[place] += part;
            sums[place + 1] += warmth;
        }
    }

    /** What was put in, and with which shares it comes back. */
    private static final class Kernel {
        static final int ROOM = 12, SHARES = 6, LAST = 16;

        int count;
        final int[] shares = new int[SHARES];
        final int[] amounts = new int[ROOM];

        int together() {
            int all = 0;
            for (int k = 0; k < SHARES; k++) {
                all += shares[k];
            }
            return all;
        }

        int comes(int year) {
            int all = 0;
            for (int k = 0; k < SHARES; k++) {
                int then = year - k;
                if (then >= 0 && then < count) {
                    // a thousand millions at most: it stays an int
                    all += amounts[then] * shares[k] / 1000;
                }
            }
            return all;
        }
    }

    /** The candidates and the promises. */
    private static final class Offers {
        static final int ROOM = 8, YEARS = 6;

        int count;
        final int[] cost = new int[ROOM];
        final int[] from = new int[ROOM];
        final int[] steam = new int[ROOM];
        final int[] promised = new int[YEARS];

        int add(int itsCost, int itsYear, int itsSteam) {
            int number = count;
            cost[number] = itsCost;
            from[number] = itsYear;
            steam[number] = itsSteam;
            count++;
            return number;
        }

        int sets() {
            return 1 << count;
        }

        int price(int set) {
            int all = 0;
            for (int c = 0; c < count; c++) {
                if ((set >> c & 1) == 1) {
                    all += cost[c];
                }
            }
            return all;
        }

        int missing(int set, int year) {
            int all = 0;
            for (int c = 0; c < count; c++) {
                if ((set >> c & 1) == 1 && from[c] <= year) {
                    all += steam[c];
                }
            }
            return Math.max(promised[year] - all, 0);
        }

        private boolean keeps(int set) {
            for (int year = 0; year < YEARS; year++) {
                if (missing(set, year) > 0) {
                    return false;
                }
            }
            return true;
        }

        /** The sets come by their numbers, so of several at one cost the first stays. */
        int cheapest() {
            int best = NONE;
            int bestPrice = 0;
            for (int set = 0; set < sets(); set++) {
                int price = price(set);
                if ((best == NONE || price < bestPrice) && keeps(set)) {
                    best = set;
                    bestPrice = price;
                }
            }
            return best;
        }
    }
}
