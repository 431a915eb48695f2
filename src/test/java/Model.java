import java.math.BigInteger;
import java.util.ArrayList;
import java.util.List;

/** The document's terms written a second time, with whole numbers of any size, to be held beside HotGround. */
final class Model {
    private abstract static class Body {
        abstract int flow(Well well, int p, boolean counted);
    }

    private final class Plain extends Body {
        @Override
        int flow(Well well, int p, boolean counted) {
            if (counted) {
                trace += 1;
            }
            int fifths = 0;
            for (int i = 0; i < 5; i++) {
                // each corner weighs the more the nearer it is, nothing from 5 away on
                int near = 5 - Math.abs(p - 5 * i);
                fifths += near > 0 ? near * well.corners[i] : 0;
            }
            return fifths;
        }
    }

    private final class Scaled extends Body {
        @Override
        int flow(Well well, int p, boolean counted) {
            if (counted) {
                trace += 10;
            }
            int left = well.age >= 20 ? 0 : 20 - well.age;
            return new Plain().flow(well, p, counted) * left / 20;
        }
    }

    private final class Tested extends Body {
        @Override
        int flow(Well well, int p, boolean counted) {
            if (counted) {
                trace += 100;
            }
            int up = new Scaled().flow(well, p, counted);
            return up > 1000 ? 1000 : up;
        }
    }

    private static final class Well {
        int kind;
        int box;
        int age;
        boolean open;
        int[] corners;
        Body body;
    }

    private static final class Turbine {
        int least;
        int rate;
        int most;
        boolean on = true;
    }

    private static final class Candidate {
        int cost;
        int year;
        int steam;
    }

    private final List<Well> wells = new ArrayList<>();
    private final List<Turbine> turbines = new ArrayList<>();
    private final List<Candidate> candidates = new ArrayList<>();
    private final List<Integer> amounts = new ArrayList<>();
    private final BigInteger[][] boxes = new BigInteger[4][2];
    private final BigInteger[] sums = new BigInteger[9];
    private final int[] leaks = {1000, 1000, 1000};
    private final int[] feeds = new int[4];
    private final int[] given = new int[2];
    private final int[] shares = new int[6];
    private final int[] promises = new int[6];
    private long trace;

    Model() {
        for (BigInteger[] box : boxes) {
            box[0] = BigInteger.ZERO;
            box[1] = BigInteger.ZERO;
        }
        java.util.Arrays.fill(sums, BigInteger.ZERO);
    }

    private static boolean not(int least, int v, int most) {
        return !(least <= v && v <= most);
    }

    long well(int kind, int box, int[] corners) {
        if (not(0, kind, 2) || not(0, box, 3)) {
            return -1;
        }
        int before = 200;
        for (int corner : corners) {
            if (not(0, corner, before)) {
                return -1;
            }
            before = corner;
        }
        if (wells.size() == 8) {
            return -3;
        }
        Well well = new Well();
        well.kind = kind;
        well.box = box;
        well.corners = corners.clone();
        well.body = kind == 0 ? new Plain() : kind == 1 ? new Scaled() : new Tested();
        wells.add(well);
        return wells.size() - 1;
    }

    long open(int w, boolean is) {
        if (not(0, w, wells.size() - 1)) {
            return -1;
        }
        long was = wells.get(w).open ? 1 : 0;
        wells.get(w).open = is;
        return was;
    }

    long clean(int w) {
        if (not(0, w, wells.size() - 1)) {
            return -1;
        }
        long was = wells.get(w).age;
        wells.get(w).age = 0;
        return was;
    }

    long flow(int w, int p) {
        if (not(0, w, wells.size() - 1) || not(0, p, 20)) {
            return -1;
        }
        return wells.get(w).body.flow(wells.get(w), p, true);
    }

    long about(int w, int what) {
        if (not(0, w, wells.size() - 1) || not(0, what, 8)) {
            return -1;
        }
        Well well = wells.get(w);
        int[] row = {well.kind, well.box, well.age, well.open ? 1 : 0, well.corners[0], well.corners[1],
            well.corners[2], well.corners[3], well.corners[4]};
        return row[what];
    }

    long turbine(int least, int rate, int most) {
        if (not(0, least, 20) || not(1, rate, 40) || not(1, most, 2000)) {
            return -1;
        }
        if (turbines.size() == 4) {
            return -3;
        }
        Turbine turbine = new Turbine();
        turbine.least = least;
        turbine.rate = rate;
        turbine.most = most;
        turbines.add(turbine);
        return turbines.size() - 1;
    }

    long on(int t, boolean is) {
        if (not(0, t, turbines.size() - 1)) {
            return -1;
        }
        long was = turbines.get(t).on ? 1 : 0;
        turbines.get(t).on = is;
        return was;
    }

    long at(int what, int p) {
        if (not(0, what, 2) || not(0, p, 20)) {
            return -1;
        }
        long steam = 0;
        long water = 0;
        for (Well well : wells) {
            if (well.open) {
                int flow = well.body.flow(well, p, false);
                int its = flow * (300 - 5 * p) / 1000;
                steam += its;
                water += flow - its;
            }
        }
        return what == 0 ? steam : what == 2 ? water : draw(p);
    }

    private long draw(int p) {
        long all = 0;
        for (Turbine turbine : turbines) {
            if (turbine.on && p >= turbine.least) {
                all += Math.min(turbine.most, turbine.rate * (p + 1));
            }
        }
        return all;
    }

    long point() {
        long found = -9;
        for (int p = 0; p <= 20; p++) {
            if (at(0, p) >= at(1, p)) {
                found = p;
            }
        }
        return found;
    }

    long fill(int box, int mass, int heat) {
        if (not(0, box, 3) || not(0, mass, 10000000) || not(0, heat, 10000000)) {
            return -1;
        }
        boxes[box][0] = BigInteger.valueOf(mass);
        boxes[box][1] = BigInteger.valueOf(heat);
        return 1;
    }

    long set(int what, int which, int v) {
        int[][] rows = {leaks, feeds, given};
        int[] most = {1000, 1000, which == 1 ? 3 : 1000};
        if (not(0, what, 2) || not(0, which, rows[what].length - 1) || not(what == 0 ? 2 : 0, v, most[what])) {
            return -1;
        }
        long was = rows[what][which];
        rows[what][which] = v;
        return was;
    }

    private static BigInteger big(long v) {
        return BigInteger.valueOf(v);
    }

    private void bring(int box, BigInteger mass, BigInteger heat) {
        boxes[box][0] = boxes[box][0].add(mass);
        boxes[box][1] = boxes[box][1].add(heat);
        if (boxes[box][0].signum() < 0 || boxes[box][1].signum() < 0) {
            throw new IllegalStateException("less than nothing in a box");
        }
    }

    private void add(int place, BigInteger v) {
        sums[place] = sums[place].add(v);
    }

    private BigInteger heatOf(int box, BigInteger mass) {
        return mass.signum() == 0 ? BigInteger.ZERO : mass.multiply(boxes[box][1]).divide(boxes[box][0]);
    }

    long year(int n) {
        if (not(1, n, 20)) {
            return -1;
        }
        for (int i = 0; i < n; i++) {
            long p = point();
            if (p >= 0) {
                run((int) p);
            } else {
                add(8, BigInteger.ONE);
            }
            leak();
            feed();
            for (Well well : wells) {
                well.age += well.open ? 1 : 0;
            }
            add(7, BigInteger.ONE);
        }
        return sums[7].longValueExact();
    }

    private void run(int p) {
        BigInteger all = BigInteger.ZERO;
        for (Well well : wells) {
            if (well.open) {
                BigInteger mass = big(well.body.flow(well, p, false)).min(boxes[well.box][0]);
                BigInteger heat = heatOf(well.box, mass);
                bring(well.box, mass.negate(), heat.negate());
                all = all.add(mass);
                add(1, heat);
            }
        }
        add(0, all);
        BigInteger back = all.multiply(big(given[0])).divide(big(1000));
        bring(given[1], back, back.multiply(big(40)));
        add(2, back);
        add(3, back.multiply(big(40)));
        add(6, big(draw(p)));
    }

    private void leak() {
        for (int i = 0; i < 3; i++) {
            BigInteger mass = boxes[i][0].subtract(boxes[i + 1][0]).divide(big(leaks[i]));
            if (mass.signum() > 0) {
                BigInteger heat = heatOf(i, mass);
                bring(i, mass.negate(), heat.negate());
                bring(i + 1, mass, heat);
            } else if (mass.signum() < 0) {
                BigInteger heat = heatOf(i + 1, mass.negate());
                bring(i + 1, mass, heat.negate());
                bring(i, mass.negate(), heat);
            }
        }
    }

    private void feed() {
        for (int i = 0; i < 4; i++) {
            bring(i, big(feeds[i]), big(10L * feeds[i]));
            add(4, big(feeds[i]));
            add(5, big(10L * feeds[i]));
        }
    }

    long box(int box, int what) {
        return not(0, box, 3) || not(0, what, 1) ? -1 : boxes[box][what].longValueExact();
    }

    long sum(int what) {
        return not(0, what, 8) ? -1 : sums[what].longValueExact();
    }

    long share(int k, int v) {
        if (not(0, k, 5) || not(0, v, 1000)) {
            return -1;
        }
        int was = shares[k];
        shares[k] = v;
        int all = 0;
        for (int share : shares) {
            all += share;
        }
        if (all > 1000) {
            shares[k] = was;
            return -1;
        }
        return was;
    }

    long put(int amount) {
        if (not(0, amount, 1000000)) {
            return -1;
        }
        if (amounts.size() == 12) {
            return -3;
        }
        amounts.add(amount);
        return amounts.size();
    }

    long back(int year) {
        if (not(0, year, 16)) {
            return -1;
        }
        long[] all = new long[17];
        for (int then = 0; then < amounts.size(); then++) {
            for (int k = 0; k < 6; k++) {
                all[then + k] += (long) amounts.get(then) * shares[k] / 1000;
            }
        }
        return all[year];
    }

    long cut() {
        if (amounts.isEmpty()) {
            return -2;
        }
        amounts.remove(amounts.size() - 1);
        return amounts.size();
    }

    long candidate(int cost, int year, int steam) {
        if (not(1, cost, 1000) || not(0, year, 5) || not(1, steam, 500)) {
            return -1;
        }
        if (candidates.size() == 8) {
            return -3;
        }
        Candidate candidate = new Candidate();
        candidate.cost = cost;
        candidate.year = year;
        candidate.steam = steam;
        candidates.add(candidate);
        return candidates.size() - 1;
    }

    long promise(int year, int v) {
        if (not(0, year, 5) || not(0, v, 3000)) {
            return -1;
        }
        long was = promises[year];
        promises[year] = v;
        return was;
    }

    long plan(int what) {
        if (not(0, what, 1)) {
            return -1;
        }
        // a cost and a set in one number: the least of them is the plan
        long least = Long.MAX_VALUE;
        for (int set = (1 << candidates.size()) - 1; set >= 0; set--) {
            long cost = 0;
            for (int i = 0; i < candidates.size(); i++) {
                cost += (set & 1 << i) != 0 ? candidates.get(i).cost : 0;
            }
            long short0 = 0;
            for (int year = 0; year < 6; year++) {
                short0 += lacks(set, year);
            }
            if (short0 == 0) {
                least = Math.min(least, cost * 256 + set);
            }
        }
        return least == Long.MAX_VALUE ? -9 : what == 0 ? least % 256 : least / 256;
    }

    long lacks(int set, int year) {
        if (not(0, set, (1 << candidates.size()) - 1) || not(0, year, 5)) {
            return -1;
        }
        int left = promises[year];
        for (int i = 0; i < candidates.size(); i++) {
            Candidate candidate = candidates.get(i);
            if ((set & 1 << i) != 0 && year >= candidate.year) {
                left -= candidate.steam;
            }
        }
        return Math.max(left, 0);
    }

    long count(int what) {
        if (not(0, what, 5)) {
            return -1;
        }
        long open = wells.stream().filter(well -> well.open).count();
        long on = turbines.stream().filter(turbine -> turbine.on).count();
        long[] row = {wells.size(), turbines.size(), candidates.size(), amounts.size(), open, on};
        return row[what];
    }

    long trace() {
        return trace;
    }
}
