/** Promises 20 to 24: candidate, promise, plan, lacks, count. */
public final class PlanTest {
    private PlanTest() {
    }

    public static void main(String[] args) {
        numbersAndRoom();
        edgesOfACandidate();
        promiseTellsWhatItWas();
        theLeastCost();
        theLeastNumberOfSeveral();
        everyYearIsKept();
        allOfEight();
        noSetKeeps();
        lacksOfASet();
        counts();
        Check.end();
    }

    private static void numbersAndRoom() {
        HotGround x = new HotGround();
        for (int n = 0; n < 8; n++) {
            Check.due("candidate " + n, x.candidate(1, 0, 1), n);
        }
        Check.due("ninth", x.candidate(1, 0, 1), HotGround.FULL);
        Check.due("BAD before FULL", x.candidate(0, 0, 1), HotGround.BAD);
        Check.due("eight", x.count(2), 8);
    }

    private static void edgesOfACandidate() {
        HotGround x = new HotGround();
        Check.due("cost 0", x.candidate(0, 0, 1), HotGround.BAD);
        Check.due("cost 1001", x.candidate(1001, 0, 1), HotGround.BAD);
        Check.due("year -1", x.candidate(1, -1, 1), HotGround.BAD);
        Check.due("year 6", x.candidate(1, 6, 1), HotGround.BAD);
        Check.due("steam 0", x.candidate(1, 0, 0), HotGround.BAD);
        Check.due("steam 501", x.candidate(1, 0, 501), HotGround.BAD);
        Check.due("none stands", x.count(2), 0);
        Check.due("the least", x.candidate(1, 0, 1), 0);
        Check.due("the most", x.candidate(1000, 5, 500), 1);
    }

    private static void promiseTellsWhatItWas() {
        HotGround x = new HotGround();
        for (int year = 0; year < 6; year++) {
            Check.due("at first", x.promise(year, 3000 - year), 0);
        }
        for (int year = 0; year < 6; year++) {
            Check.due("then", x.promise(year, 0), 3000 - year);
        }
        Check.due("3001", x.promise(0, 3001), HotGround.BAD);
        Check.due("-1", x.promise(0, -1), HotGround.BAD);
        Check.due("year 6", x.promise(6, 0), HotGround.BAD);
        Check.due("year -1", x.promise(-1, 0), HotGround.BAD);
        Check.due("nothing has changed", x.promise(0, 0), 0);
    }

    private static void theLeastCost() {
        HotGround x = new HotGround();
        x.candidate(100, 0, 50);
        x.candidate(60, 0, 30);
        x.candidate(30, 0, 20);
        x.candidate(1, 0, 1);
        Check.due("nothing is promised", x.plan(0), 0);
        Check.due("nothing costs nothing", x.plan(1), 0);
        x.promise(0, 50);
        Check.due("30 and 20, not 50", x.plan(0), 6);
        Check.due("at 90", x.plan(1), 90);
        x.promise(0, 51);
        Check.due("and 1", x.plan(0), 14);
        Check.due("at 91", x.plan(1), 91);
        x.promise(0, 52);
        Check.due("50 and 20", x.plan(0), 5);
        Check.due("at 130", x.plan(1), 130);
        Check.due("what 2", x.plan(2), HotGround.BAD);
        Check.due("what -1", x.plan(-1), HotGround.BAD);
    }

    private static void theLeastNumberOfSeveral() {
        HotGround x = new HotGround();
        x.candidate(4, 0, 10);
        x.candidate(2, 0, 5);
        x.candidate(2, 0, 5);
        x.candidate(4, 0, 10);
        x.promise(0, 10);
        Check.due("1, 6 and 8 at 4", x.plan(0), 1);
        x.promise(0, 20);
        Check.due("7, 9 and 14 at 8", x.plan(0), 7);
        Check.due("at 8", x.plan(1), 8);
    }

    private static void everyYearIsKept() {
        HotGround x = new HotGround();
        x.candidate(1, 3, 100);
        x.candidate(9, 2, 100);
        x.candidate(20, 0, 10);
        x.promise(3, 100);
        Check.due("from 3 on", x.plan(0), 1);
        x.promise(2, 100);
        Check.due("from 2 on", x.plan(0), 2);
        x.promise(5, 200);
        Check.due("both in the last year", x.plan(0), 3);
        x.promise(0, 10);
        Check.due("and one in the first", x.plan(0), 7);
        Check.due("at 30", x.plan(1), 30);
        x.promise(0, 11);
        Check.due("too much in the first", x.plan(0), HotGround.NONE);
        x.promise(0, 0);
        x.promise(1, 1);
        Check.due("some in the second", x.plan(0), 7);
    }

    private static void allOfEight() {
        HotGround x = new HotGround();
        for (int n = 0; n < 8; n++) {
            x.candidate(1000, n % 6, 375);
        }
        x.promise(5, 3000);
        Check.due("all of them", x.plan(0), 255);
        Check.due("at 8000", x.plan(1), 8000);
        x.promise(5, 2625);
        Check.due("seven of them", x.plan(0), 127);
        x.promise(5, 1);
        x.promise(1, 750);
        Check.due("0, 1, 6 and 7 give in year 1", x.plan(0), 3);
    }

    private static void noSetKeeps() {
        HotGround x = new HotGround();
        x.promise(4, 1);
        Check.due("no candidate", x.plan(0), HotGround.NONE);
        Check.due("no cost", x.plan(1), HotGround.NONE);
        Check.due("BAD before that", x.plan(2), HotGround.BAD);
        x.candidate(1, 5, 500);
        Check.due("too late", x.plan(0), HotGround.NONE);
        x.candidate(1000, 4, 1);
        Check.due("just then", x.plan(0), 2);
        Check.due("at 1000", x.plan(1), 1000);
    }

    private static void lacksOfASet() {
        HotGround x = new HotGround();
        Check.due("the empty set", x.lacks(0, 0), 0);
        Check.due("no candidate yet", x.lacks(1, 0), HotGround.BAD);
        x.candidate(1, 2, 100);
        x.candidate(1, 0, 10);
        x.promise(0, 15);
        x.promise(2, 115);
        Check.due("the empty set", x.lacks(0, 2), 115);
        Check.due("not yet", x.lacks(1, 0), 15);
        Check.due("by 5", x.lacks(2, 0), 5);
        Check.due("by 15", x.lacks(1, 2), 15);
        Check.due("both by 5", x.lacks(3, 2), 5);
        Check.due("no promise", x.lacks(0, 1), 0);
        x.promise(2, 110);
        Check.due("just kept", x.lacks(3, 2), 0);
        Check.due("more than kept", x.lacks(3, 5), 0);
        Check.due("a bit beyond", x.lacks(4, 0), HotGround.BAD);
        Check.due("below", x.lacks(-1, 0), HotGround.BAD);
        Check.due("year 6", x.lacks(0, 6), HotGround.BAD);
        Check.due("year -1", x.lacks(0, -1), HotGround.BAD);
        for (int n = 2; n < 8; n++) {
            x.candidate(1, 0, 1);
        }
        Check.due("all eight", x.lacks(255, 0), 0);
        Check.due("beyond all eight", x.lacks(256, 0), HotGround.BAD);
    }

    private static void counts() {
        HotGround x = new HotGround();
        x.well(0, 0, 1, 1, 1, 1, 1);
        x.well(0, 0, 1, 1, 1, 1, 1);
        x.well(0, 0, 1, 1, 1, 1, 1);
        x.well(0, 0, 1, 1, 1, 1, 1);
        x.well(0, 0, 1, 1, 1, 1, 1);
        x.open(1, true);
        x.open(3, true);
        x.open(4, true);
        x.open(3, false);
        x.turbine(0, 1, 1);
        x.turbine(0, 1, 1);
        x.turbine(0, 1, 1);
        x.on(0, false);
        x.candidate(1, 0, 1);
        x.put(1);
        x.put(2);
        x.put(3);
        x.put(4);
        int[] due = {5, 3, 1, 4, 2, 2};
        for (int what = 0; what < 6; what++) {
            Check.due("count " + what, x.count(what), due[what]);
        }
        x.open(1, false);
        x.on(1, false);
        x.cut();
        Check.due("one is open", x.count(4), 1);
        Check.due("one is on", x.count(5), 1);
        Check.due("three are put in", x.count(3), 3);
        Check.due("count 6", x.count(6), HotGround.BAD);
        Check.due("count -1", x.count(-1), HotGround.BAD);
    }
}
