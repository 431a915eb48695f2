import java.util.ArrayList;
import java.util.List;

/** Every call with wrong numbers, in several states: what is due, and that nothing has changed after it. */
public final class RefusedTest {
    private interface Call {
        long on(HotGround x);
    }

    private static final class Refused {
        final String name;
        final long due;
        final Call call;

        Refused(String name, long due, Call call) {
            this.name = name;
            this.due = due;
            this.call = call;
        }
    }

    private static final int NEW = 0, SOME = 1, FULL = 2, STATES = 3;
    private static final int[] WILD = {Integer.MIN_VALUE, Integer.MIN_VALUE + 1, -1000, -9, -1,
        Integer.MAX_VALUE - 1, Integer.MAX_VALUE};

    private RefusedTest() {
    }

    public static void main(String[] args) {
        for (int state = 0; state < STATES; state++) {
            String plain = told(made(state));
            for (Refused refused : refusals(state)) {
                HotGround x = made(state);
                String name = "state " + state + ": " + refused.name;
                Check.due(name, refused.call.on(x), refused.due);
                Check.same(name + ": what stands after it", told(x), plain);
            }
        }
        Check.end();
    }

    private static HotGround made(int state) {
        HotGround x = new HotGround();
        int wells = state == NEW ? 0 : state == SOME ? 3 : 8;
        int turbines = state == NEW ? 0 : state == SOME ? 2 : 4;
        int candidates = state == NEW ? 0 : state == SOME ? 3 : 8;
        int amounts = state == NEW ? 0 : state == SOME ? 3 : 12;
        for (int n = 0; n < wells; n++) {
            x.well(n % 3, n % 4, 200 - n, 150 - n, 100 - n, 50 - n, 20 - n);
            x.open(n, n != 1);
        }
        for (int n = 0; n < turbines; n++) {
            x.turbine(n, 5 + n, 100 * n + 1);
            x.on(n, n != 1);
        }
        for (int n = 0; n < candidates; n++) {
            x.candidate(5 + n, n % 6, 100 + n);
        }
        for (int n = 0; n < amounts; n++) {
            x.put(1000 * n + 7);
        }
        if (state != NEW) {
            for (int n = 0; n < 4; n++) {
                x.fill(n, 10000 * n + 5000, 70000 + n);
                x.set(1, n, 10 * n);
            }
            for (int n = 0; n < 3; n++) {
                x.set(0, n, 7 + n);
            }
            x.set(2, 0, 300);
            x.set(2, 1, 2);
            x.share(0, 500);
            x.share(3, 400);
            x.promise(4, 150);
            x.year(3);
            x.flow(2, 7);
        }
        return x;
    }

    /** All that can be read of an object, then some of what it does next. */
    private static String told(HotGround x) {
        StringBuilder out = new StringBuilder();
        out.append(x.trace());
        for (int what = 0; what <= 5; what++) {
            out.append(' ').append(x.count(what));
        }
        for (int w = 0; w < x.count(0); w++) {
            for (int what = 0; what <= 8; what++) {
                out.append(' ').append(x.about(w, what));
            }
        }
        out.append(" /").append(x.point());
        for (int p = 0; p <= 20; p += 4) {
            out.append(' ').append(x.at(0, p)).append(' ').append(x.at(1, p)).append(' ').append(x.at(2, p));
        }
        tellGround(x, out);
        tellSettings(x, out);
        for (int year = 0; year <= 16; year++) {
            out.append(' ').append(x.back(year));
        }
        tellPlan(x, out);
        x.year(3);
        tellGround(x, out);
        out.append(" cut").append(x.cut()).append(" put").append(x.put(77));
        return out.toString();
    }

    private static void tellGround(HotGround x, StringBuilder out) {
        out.append(" /");
        for (int box = 0; box < 4; box++) {
            out.append(' ').append(x.box(box, 0)).append(' ').append(x.box(box, 1));
        }
        for (int what = 0; what <= 8; what++) {
            out.append(' ').append(x.sum(what));
        }
    }

    private static void tellSettings(HotGround x, StringBuilder out) {
        out.append(" /");
        for (int which = 0; which < 3; which++) {
            int was = x.set(0, which, 2);
            x.set(0, which, was);
            out.append(' ').append(was);
        }
        for (int which = 0; which < 4; which++) {
            int was = x.set(1, which, 0);
            x.set(1, which, was);
            out.append(' ').append(was);
        }
        for (int which = 0; which < 2; which++) {
            int was = x.set(2, which, 0);
            x.set(2, which, was);
            out.append(' ').append(was);
        }
        for (int k = 0; k < 6; k++) {
            int was = x.share(k, 0);
            x.share(k, was);
            out.append(' ').append(was);
        }
    }

    private static void tellPlan(HotGround x, StringBuilder out) {
        out.append(" /").append(x.plan(0)).append(' ').append(x.plan(1));
        for (int year = 0; year < 6; year++) {
            int was = x.promise(year, 1500);
            for (int n = 0; n < x.count(2); n += 2) {
                out.append(' ').append(x.lacks(1 << n, year));
            }
            x.promise(year, was);
            out.append(' ').append(was);
        }
    }

    private static List<Refused> refusals(int state) {
        List<Refused> all = new ArrayList<>();
        wells(all, state);
        plant(all, state);
        ground(all);
        comesBack(all, state);
        plans(all, state);
        return all;
    }

    private static void bad(List<Refused> all, String name, Call call) {
        all.add(new Refused(name, -1, call));
    }

    /** The wild numbers and those just outside the bounds. */
    private static int[] outside(int least, int most) {
        List<Integer> found = new ArrayList<>();
        for (int v : WILD) {
            if (v < least || v > most) {
                found.add(v);
            }
        }
        found.add(least - 1);
        found.add(most + 1);
        int[] row = new int[found.size()];
        for (int i = 0; i < row.length; i++) {
            row[i] = found.get(i);
        }
        return row;
    }

    private static void wells(List<Refused> all, int state) {
        int wells = state == NEW ? 0 : state == SOME ? 3 : 8;
        for (int v : outside(0, 2)) {
            bad(all, "well of kind " + v, x -> x.well(v, 0, 5, 4, 3, 2, 1));
        }
        for (int v : outside(0, 3)) {
            bad(all, "well in box " + v, x -> x.well(0, v, 5, 4, 3, 2, 1));
        }
        for (int v : outside(0, 200)) {
            bad(all, "well with a " + v, x -> x.well(0, 0, v, 0, 0, 0, 0));
            bad(all, "well with all " + v, x -> x.well(0, 0, v, v, v, v, v));
        }
        for (int v : outside(0, 50)) {
            bad(all, "well with b " + v, x -> x.well(0, 0, 50, v, 0, 0, 0));
            bad(all, "well with c " + v, x -> x.well(0, 0, 100, 50, v, 0, 0));
            bad(all, "well with d " + v, x -> x.well(0, 0, 100, 60, 50, v, 0));
            bad(all, "well with e " + v, x -> x.well(0, 0, 100, 60, 55, 50, v));
        }
        for (int v : outside(0, wells - 1)) {
            bad(all, "open of " + v, x -> x.open(v, true));
            bad(all, "shutting " + v, x -> x.open(v, false));
            bad(all, "clean of " + v, x -> x.clean(v));
            bad(all, "flow of " + v, x -> x.flow(v, 5));
            bad(all, "about " + v, x -> x.about(v, 0));
        }
        for (int v : outside(0, 20)) {
            bad(all, "flow at " + v, x -> x.flow(0, v));
        }
        for (int v : outside(0, 8)) {
            bad(all, "about what " + v, x -> x.about(0, v));
        }
        if (state == FULL) {
            all.add(new Refused("a ninth well", -3, x -> x.well(0, 0, 5, 4, 3, 2, 1)));
        }
    }

    private static void plant(List<Refused> all, int state) {
        int turbines = state == NEW ? 0 : state == SOME ? 2 : 4;
        for (int v : outside(0, 20)) {
            bad(all, "turbine from " + v, x -> x.turbine(v, 1, 1));
            bad(all, "supply at " + v, x -> x.at(0, v));
            bad(all, "draw at " + v, x -> x.at(1, v));
            bad(all, "water at " + v, x -> x.at(2, v));
        }
        for (int v : outside(1, 40)) {
            bad(all, "turbine of rate " + v, x -> x.turbine(0, v, 1));
        }
        for (int v : outside(1, 2000)) {
            bad(all, "turbine of most " + v, x -> x.turbine(0, 1, v));
        }
        for (int v : outside(0, turbines - 1)) {
            bad(all, "on of " + v, x -> x.on(v, true));
            bad(all, "trip of " + v, x -> x.on(v, false));
        }
        for (int v : outside(0, 2)) {
            bad(all, "at what " + v, x -> x.at(v, 0));
        }
        if (state == FULL) {
            all.add(new Refused("a fifth turbine", -3, x -> x.turbine(0, 1, 1)));
        }
    }

    private static void ground(List<Refused> all) {
        for (int v : outside(0, 3)) {
            bad(all, "fill of " + v, x -> x.fill(v, 1, 1));
            bad(all, "box " + v, x -> x.box(v, 0));
            bad(all, "feed of " + v, x -> x.set(1, v, 1));
            bad(all, "given into " + v, x -> x.set(2, 1, v));
        }
        for (int v : outside(0, 10000000)) {
            bad(all, "fill with mass " + v, x -> x.fill(0, v, 1));
            bad(all, "fill with heat " + v, x -> x.fill(0, 1, v));
        }
        for (int v : outside(0, 2)) {
            bad(all, "set what " + v, x -> x.set(v, 0, 2));
            bad(all, "leak of " + v, x -> x.set(0, v, 2));
        }
        for (int v : outside(2, 1000)) {
            bad(all, "leak " + v, x -> x.set(0, 0, v));
        }
        for (int v : outside(0, 1000)) {
            bad(all, "feed " + v, x -> x.set(1, 0, v));
            bad(all, "share given back " + v, x -> x.set(2, 0, v));
        }
        for (int v : outside(0, 1)) {
            bad(all, "set 2 of " + v, x -> x.set(2, v, 1));
            bad(all, "box what " + v, x -> x.box(0, v));
        }
        for (int v : outside(1, 20)) {
            bad(all, "years " + v, x -> x.year(v));
        }
        for (int v : outside(0, 8)) {
            bad(all, "sum " + v, x -> x.sum(v));
        }
    }

    private static void comesBack(List<Refused> all, int state) {
        for (int v : outside(0, 5)) {
            bad(all, "share of " + v, x -> x.share(v, 0));
        }
        for (int v : outside(0, 1000)) {
            bad(all, "share " + v, x -> x.share(1, v));
        }
        for (int v : outside(0, 1000000)) {
            bad(all, "put " + v, x -> x.put(v));
        }
        for (int v : outside(0, 16)) {
            bad(all, "back in " + v, x -> x.back(v));
        }
        if (state == NEW) {
            all.add(new Refused("cut of nothing", -2, HotGround::cut));
        } else {
            bad(all, "shares of 1001 together", x -> x.share(1, 101));
            bad(all, "shares of 1001 by one that stands", x -> x.share(0, 601));
        }
        if (state == FULL) {
            all.add(new Refused("a thirteenth amount", -3, x -> x.put(1)));
        }
    }

    private static void plans(List<Refused> all, int state) {
        int sets = state == NEW ? 1 : state == SOME ? 8 : 256;
        for (int v : outside(1, 1000)) {
            bad(all, "candidate of cost " + v, x -> x.candidate(v, 0, 1));
        }
        for (int v : outside(0, 5)) {
            bad(all, "candidate from " + v, x -> x.candidate(1, v, 1));
            bad(all, "promise of " + v, x -> x.promise(v, 1));
            bad(all, "lacks in " + v, x -> x.lacks(0, v));
            bad(all, "count " + v, x -> x.count(v));
        }
        for (int v : outside(1, 500)) {
            bad(all, "candidate of steam " + v, x -> x.candidate(1, 0, v));
        }
        for (int v : outside(0, 3000)) {
            bad(all, "promise " + v, x -> x.promise(0, v));
        }
        for (int v : outside(0, 1)) {
            bad(all, "plan " + v, x -> x.plan(v));
        }
        for (int v : outside(0, sets - 1)) {
            bad(all, "lacks of " + v, x -> x.lacks(v, 0));
        }
        if (state == FULL) {
            all.add(new Refused("a ninth candidate", -3, x -> x.candidate(1, 0, 1)));
        }
    }
}
