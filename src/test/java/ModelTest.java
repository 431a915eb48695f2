/** Runs of 512 mixed calls, each put to HotGround and to the model; the numbers come from a fixed row. */
public final class ModelTest {
    private static final int RUNS = 600, CALLS = 512, NAMES = 24;

    private long seed;
    private final HotGround x = new HotGround();
    private final Model m = new Model();
    private final int run;
    private int calls;

    private ModelTest(int run) {
        this.run = run;
        this.seed = 1000003L * run + 17;
    }

    public static void main(String[] args) {
        for (int run = 0; run < RUNS; run++) {
            ModelTest test = new ModelTest(run);
            // a year is looked at with eight calls more
            while (test.calls + 9 <= CALLS) {
                test.call(test.next(NAMES));
            }
        }
        Check.end();
    }

    private int next(int bound) {
        seed = seed * 6364136223846793005L + 1442695040888963407L;
        return (int) ((seed >>> 33) % bound);
    }

    /** Mostly within the bounds, often just at them, seldom outside. */
    private int near(int least, int most) {
        int way = next(24);
        if (way == 0) {
            return least - 1;
        }
        if (way == 1) {
            return most + 1;
        }
        if (way == 2) {
            return next(2) == 0 ? Integer.MIN_VALUE : Integer.MAX_VALUE;
        }
        if (way < 6) {
            return least;
        }
        if (way < 9) {
            return most;
        }
        return least + next(most - least + 1);
    }

    private void due(String call, long got, long want) {
        calls++;
        Check.due("run " + run + ", call " + calls + ": " + call, got, want);
    }

    private void call(int name) {
        if (name < 9) {
            callPlant(name);
        } else if (name < 14) {
            callGround(name);
        } else {
            callRest(name);
        }
    }

    private void callPlant(int name) {
        int a = near(0, 7);
        int p = near(0, 20);
        boolean is = next(4) != 0;
        switch (name) {
            case 0 -> well();
            case 1 -> due("open " + a, x.open(a, is), m.open(a, is));
            case 2 -> due("clean " + a, x.clean(a), m.clean(a));
            case 3 -> due("flow " + a + " at " + p, x.flow(a, p), m.flow(a, p));
            case 4 -> {
                int what = near(0, 8);
                due("about " + a + " " + what, x.about(a, what), m.about(a, what));
            }
            case 5 -> {
                int rate = near(1, 40);
                int most = near(1, 2000);
                due("turbine", x.turbine(p, rate, most), m.turbine(p, rate, most));
            }
            case 6 -> {
                int t = near(0, 3);
                due("on " + t, x.on(t, is), m.on(t, is));
            }
            case 7 -> {
                int what = near(0, 2);
                due("at " + what + " " + p, x.at(what, p), m.at(what, p));
            }
            default -> due("point", x.point(), m.point());
        }
    }

    private void well() {
        int kind = near(0, 2);
        int box = near(0, 3);
        int[] c = new int[5];
        int before = 200;
        for (int i = 0; i < 5; i++) {
            c[i] = next(60) == 0 ? before + 1 : next(60) == 0 ? -1 : next(3) == 0 ? before : next(before + 1);
            before = Math.max(c[i], 0);
        }
        due("well", x.well(kind, box, c[0], c[1], c[2], c[3], c[4]), m.well(kind, box, c));
    }

    private void callGround(int name) {
        int box = near(0, 3);
        switch (name) {
            case 9 -> {
                int top = next(3) == 0 ? 10000000 : 20000;
                int mass = near(0, top);
                int heat = near(0, 10000000);
                due("fill " + box, x.fill(box, mass, heat), m.fill(box, mass, heat));
            }
            case 10 -> set();
            case 11 -> {
                int n = next(2) == 0 ? near(1, 20) : near(1, 3);
                due("year " + n, x.year(n), m.year(n));
                for (int b = 0; b < 4; b++) {
                    due("mass " + b, x.box(b, 0), m.box(b, 0));
                    due("heat " + b, x.box(b, 1), m.box(b, 1));
                }
            }
            case 12 -> {
                int what = near(0, 1);
                due("box " + box + " " + what, x.box(box, what), m.box(box, what));
            }
            default -> {
                int what = near(0, 8);
                due("sum " + what, x.sum(what), m.sum(what));
            }
        }
    }

    private void set() {
        int what = near(0, 2);
        int which = what == 2 ? near(0, 1) : near(0, 3);
        int v = what == 2 && which == 1 ? near(0, 3) : next(3) == 0 ? near(2, 5) : near(what == 0 ? 2 : 0, 1000);
        due("set " + what + " " + which + " " + v, x.set(what, which, v), m.set(what, which, v));
    }

    private void callRest(int name) {
        int year = near(0, 5);
        switch (name) {
            case 14 -> {
                int v = next(2) == 0 ? near(0, 300) : near(0, 1000);
                due("share " + year + " " + v, x.share(year, v), m.share(year, v));
            }
            case 15 -> {
                int amount = next(2) == 0 ? near(0, 1000000) : near(0, 50);
                due("put " + amount, x.put(amount), m.put(amount));
            }
            case 16, 17 -> {
                int then = near(0, 16);
                due("back " + then, x.back(then), m.back(then));
            }
            case 18 -> {
                if (next(2) == 0) {
                    due("cut", x.cut(), m.cut());
                } else {
                    due("trace", x.trace(), m.trace());
                }
            }
            case 19 -> {
                int cost = next(2) == 0 ? near(1, 6) : near(1, 1000);
                int steam = next(2) == 0 ? near(1, 20) : near(1, 500);
                due("candidate", x.candidate(cost, year, steam), m.candidate(cost, year, steam));
            }
            case 20 -> {
                int v = next(3) == 0 ? near(0, 3000) : near(0, 60);
                due("promise " + year + " " + v, x.promise(year, v), m.promise(year, v));
            }
            case 21 -> {
                int what = near(0, 1);
                due("plan " + what, x.plan(what), m.plan(what));
            }
            case 22 -> {
                int set = near(0, 255);
                due("lacks " + set + " " + year, x.lacks(set, year), m.lacks(set, year));
            }
            default -> due("count " + year, x.count(year), m.count(year));
        }
    }
}
