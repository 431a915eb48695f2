/** The boundary cases of Term 3, its plan, and of Promises 20 to 24: a test for each sentence that names one. */
public final class PlanEdgesTest {
    private static final int BAD = HotGround.BAD, FULL = HotGround.FULL, NONE = HotGround.NONE;
    private static final int LEAST = Integer.MIN_VALUE, MOST = Integer.MAX_VALUE;

    private PlanEdgesTest() {
    }

    public static void main(String[] args) {
        candidatesAre8AtMost();
        costIs1To1000();
        theirYearIs0To5();
        steamIs1To500();
        promisesAreOfYears0To5();
        aPromiseIs0To3000();
        theyGiveFromTheirYearOn();
        justToThePromise();
        inEachYear();
        theEmptySet();
        theFullSet();
        theLeastCostInAll();
        theLeastNumberAsBits();
        noSetKeeps();
        planIs0To1();
        lacksNothing();
        lacksOfBitsBeyond();
        lacksInYears0To5();
        countIs0To5();
        countsFromNothingToFull();
        Check.end();
    }

    /** "CANDIDATES (8 at most)" and "FULL". */
    private static void candidatesAre8AtMost() {
        HotGround x = new HotGround();
        for (int n = 0; n < 8; n++) {
            Check.due("candidate " + n, x.candidate(1, 0, 1 + n), n);
        }
        x.promise(0, 3000);
        for (int times = 0; times < 2; times++) {
            Check.due("a ninth", x.candidate(1, 0, 500), FULL);
            Check.due("eight stand", x.count(2), 8);
        }
        for (int n = 0; n < 8; n++) {
            Check.due("candidate " + n + " is its own", x.lacks(1 << n, 0), 3000 - 1 - n);
        }
        Check.due("no candidate 8", x.lacks(256, 0), BAD);
    }

    /** "have a COST (1 .. 1000)". */
    private static void costIs1To1000() {
        HotGround x = new HotGround();
        for (int cost : new int[] {LEAST, -1, 0, 1001, MOST}) {
            Check.due("cost " + cost, x.candidate(cost, 0, 1), BAD);
        }
        Check.due("none stands", x.count(2), 0);
        Check.due("cost 1", x.candidate(1, 0, 1), 0);
        Check.due("cost 1000", x.candidate(1000, 0, 1), 1);
        x.promise(0, 1);
        Check.due("1 is told", x.plan(1), 1);
        x.promise(0, 2);
        Check.due("1001 is told", x.plan(1), 1001);
    }

    /** "a YEAR (0 .. 5)". */
    private static void theirYearIs0To5() {
        HotGround x = new HotGround();
        for (int year : new int[] {LEAST, -1, 6, MOST}) {
            Check.due("year " + year, x.candidate(1, year, 1), BAD);
        }
        Check.due("none stands", x.count(2), 0);
        Check.due("year 0", x.candidate(1, 0, 1), 0);
        Check.due("year 5", x.candidate(1, 5, 1), 1);
    }

    /** "STEAM (1 .. 500) a YEAR". */
    private static void steamIs1To500() {
        HotGround x = new HotGround();
        for (int steam : new int[] {LEAST, -1, 0, 501, MOST}) {
            Check.due("steam " + steam, x.candidate(1, 0, steam), BAD);
        }
        Check.due("none stands", x.count(2), 0);
        Check.due("steam 1", x.candidate(1, 0, 1), 0);
        Check.due("steam 500", x.candidate(1, 0, 500), 1);
        x.promise(0, 501);
        Check.due("500 are wanting", x.lacks(1, 0), 500);
        Check.due("1 is wanting", x.lacks(2, 0), 1);
        Check.due("nothing is wanting", x.lacks(3, 0), 0);
    }

    /** "each YEAR 0 .. 5 has a PROMISE". */
    private static void promisesAreOfYears0To5() {
        HotGround x = new HotGround();
        for (int year : new int[] {LEAST, -1, 6, MOST}) {
            Check.due("promise of " + year, x.promise(year, 1), BAD);
        }
        Check.due("nothing is promised", x.plan(0), 0);
        for (int year = 0; year <= 5; year++) {
            Check.due("promise of " + year + " at first", x.promise(year, year + 1), 0);
        }
        for (int year = 0; year <= 5; year++) {
            Check.due("promise of " + year + " is its own", x.promise(year, 0), year + 1);
        }
    }

    /** "a PROMISE (0 .. 3000; 0 at first)". */
    private static void aPromiseIs0To3000() {
        HotGround x = new HotGround();
        for (int v : new int[] {LEAST, -1, 3001, MOST}) {
            Check.due("a promise of " + v, x.promise(5, v), BAD);
        }
        Check.due("at first", x.promise(5, 3000), 0);
        Check.due("the most", x.promise(5, 0), 3000);
        Check.due("the least", x.promise(5, 0), 0);
    }

    /** "a YEAR (0 .. 5) from which they give": not in the year before, and in the last. */
    private static void theyGiveFromTheirYearOn() {
        for (int from = 0; from <= 5; from++) {
            HotGround x = new HotGround();
            x.candidate(1, from, 1);
            for (int year = 0; year <= 5; year++) {
                x.promise(year, 1);
                String what = "from " + from + " in " + year;
                Check.due(what + ": lacks", x.lacks(1, year), year < from ? 1 : 0);
                Check.due(what + ": plan", x.plan(0), year < from ? NONE : 1);
                x.promise(year, 0);
            }
        }
    }

    /** "if in each YEAR those that give then come to it": just to it is enough, 1 less is not. */
    private static void justToThePromise() {
        HotGround x = new HotGround();
        x.candidate(1, 0, 10);
        x.candidate(5, 0, 11);
        x.promise(0, 9);
        Check.due("more than promised", x.plan(0), 1);
        x.promise(0, 10);
        Check.due("just as promised", x.plan(0), 1);
        x.promise(0, 11);
        Check.due("1 less than promised", x.plan(0), 2);
        x.promise(0, 21);
        Check.due("both come just to it", x.plan(0), 3);
        x.promise(0, 22);
        Check.due("both are 1 short", x.plan(0), NONE);
    }

    /** "in each YEAR": one year alone that is not kept is enough. */
    private static void inEachYear() {
        for (int year = 0; year <= 5; year++) {
            HotGround x = new HotGround();
            x.candidate(1, 0, 10);
            for (int other = 0; other <= 5; other++) {
                x.promise(other, 10);
            }
            Check.due("all are kept", x.plan(0), 1);
            x.promise(year, 11);
            Check.due("all but year " + year, x.plan(0), NONE);
        }
    }

    private static void theEmptySet() {
        HotGround x = new HotGround();
        Check.due("no candidate, no promise", x.plan(0), 0);
        Check.due("at no cost", x.plan(1), 0);
        x.candidate(1, 0, 500);
        Check.due("no promise", x.plan(0), 0);
        Check.due("at no cost", x.plan(1), 0);
        x.promise(0, 1);
        Check.due("one of 1", x.plan(0), 1);
        x.promise(0, 0);
        Check.due("taken back", x.plan(0), 0);
    }

    private static void theFullSet() {
        HotGround x = new HotGround();
        for (int n = 0; n < 8; n++) {
            x.candidate(1000, 0, 375);
        }
        for (int year = 0; year <= 5; year++) {
            x.promise(year, 3000);
        }
        Check.due("all eight", x.plan(0), 255);
        Check.due("the greatest cost", x.plan(1), 8000);
        HotGround y = new HotGround();
        for (int n = 0; n < 8; n++) {
            y.candidate(1000, 0, n == 0 ? 374 : 375);
        }
        y.promise(5, 3000);
        Check.due("all eight are 1 short", y.plan(0), NONE);
        Check.due("by 1", y.lacks(255, 5), 1);
    }

    /** "the set with the least COST in all": not the fewest, not the first, not those with the most steam for it. */
    private static void theLeastCostInAll() {
        HotGround x = new HotGround();
        x.candidate(4, 0, 30);
        x.candidate(1, 0, 10);
        x.candidate(1, 0, 10);
        x.candidate(1, 0, 10);
        x.promise(0, 30);
        Check.due("three at 3", x.plan(0), 14);
        Check.due("at 3", x.plan(1), 3);
        HotGround y = new HotGround();
        y.candidate(9, 0, 90);
        y.candidate(8, 0, 11);
        y.promise(0, 11);
        Check.due("8, though 9 gives much more", y.plan(0), 2);
        y.promise(0, 12);
        Check.due("now 9", y.plan(0), 1);
    }

    /** "of several that with the least number as bits (CANDIDATE 0 the lowest)". */
    private static void theLeastNumberAsBits() {
        HotGround x = new HotGround();
        for (int n = 0; n < 8; n++) {
            x.candidate(7, 0, 100);
        }
        int[] due = {0, 1, 3, 7, 15, 31, 63, 127, 255};
        for (int n = 0; n <= 8; n++) {
            x.promise(0, 100 * n);
            Check.due(n + " of eight", x.plan(0), due[n]);
            Check.due(n + " of eight: cost", x.plan(1), 7 * n);
        }
        HotGround y = new HotGround();
        y.candidate(1, 0, 1);
        y.candidate(2, 0, 10);
        y.candidate(2, 0, 10);
        y.candidate(4, 0, 20);
        y.promise(0, 20);
        Check.due("6 before 8, though 8 is one alone", y.plan(0), 6);
    }

    /** "NONE: no set keeps the PROMISES." */
    private static void noSetKeeps() {
        HotGround x = new HotGround();
        x.promise(5, 1);
        Check.due("no candidate: bits", x.plan(0), NONE);
        Check.due("no candidate: cost", x.plan(1), NONE);
        x.candidate(1, 5, 1);
        Check.due("one: bits", x.plan(0), 1);
        Check.due("one: cost", x.plan(1), 1);
        x.promise(4, 1);
        Check.due("too late: bits", x.plan(0), NONE);
        Check.due("too late: cost", x.plan(1), NONE);
    }

    /** "THE PLAN as bits (what = 0), its COST (1) .. BAD." */
    private static void planIs0To1() {
        HotGround x = new HotGround();
        for (int what : new int[] {LEAST, -1, 2, MOST}) {
            Check.due("plan " + what, x.plan(what), BAD);
        }
        x.promise(0, 1);
        for (int what : new int[] {LEAST, -1, 2, MOST}) {
            Check.due("plan " + what + ", where there is none", x.plan(what), BAD);
        }
    }

    /** "falls short of the PROMISE of a YEAR (0: it keeps it)". */
    private static void lacksNothing() {
        HotGround x = new HotGround();
        x.candidate(1, 0, 10);
        int[] promise = {0, 9, 10, 11, 3000};
        int[] due = {0, 0, 0, 1, 2990};
        for (int i = 0; i < due.length; i++) {
            x.promise(0, promise[i]);
            Check.due("10 of " + promise[i], x.lacks(1, 0), due[i]);
            Check.due("nothing of " + promise[i], x.lacks(0, 0), promise[i]);
        }
    }

    /** "BAD: bits beyond." */
    private static void lacksOfBitsBeyond() {
        HotGround x = new HotGround();
        for (int n = 0; n <= 8; n++) {
            Check.due(n + " candidates: all of them", x.lacks((1 << n) - 1, 0), 0);
            for (int bit = n; bit < 32; bit++) {
                Check.due(n + " candidates: bit " + bit, x.lacks(1 << bit, 0), BAD);
            }
            Check.due(n + " candidates: all bits", x.lacks(-1, 0), BAD);
            Check.due(n + " candidates: all bits but the sign", x.lacks(MOST, 0), BAD);
            x.candidate(1, 0, 1);
        }
    }

    private static void lacksInYears0To5() {
        HotGround x = new HotGround();
        for (int year : new int[] {LEAST, -1, 6, MOST}) {
            Check.due("lacks in " + year, x.lacks(0, year), BAD);
            Check.due("neither is there", x.lacks(1, year), BAD);
        }
        x.promise(0, 7);
        x.promise(5, 8);
        Check.due("lacks in 0", x.lacks(0, 0), 7);
        Check.due("lacks in 5", x.lacks(0, 5), 8);
    }

    /** "0 WELLS .. 5 TURBINES that are ON. BAD." */
    private static void countIs0To5() {
        HotGround x = new HotGround();
        for (int what : new int[] {LEAST, -1, 6, MOST}) {
            Check.due("count " + what, x.count(what), BAD);
        }
    }

    private static void counts(String when, HotGround x, int... due) {
        for (int what = 0; what <= 5; what++) {
            Check.due(when + ": count " + what, x.count(what), due[what]);
        }
    }

    private static void countsFromNothingToFull() {
        HotGround x = new HotGround();
        counts("new", x, 0, 0, 0, 0, 0, 0);
        for (int n = 0; n < 20; n++) {
            x.well(0, 0, 1, 1, 1, 1, 1);
            x.open(n, true);
            x.turbine(0, 1, 1);
            x.candidate(1, 0, 1);
            x.put(1);
        }
        counts("full", x, 8, 4, 8, 12, 8, 4);
        for (int n = 0; n < 20; n++) {
            x.open(n, false);
            x.on(n, false);
            x.cut();
        }
        counts("shut, tripped, cut", x, 8, 4, 8, 0, 0, 0);
    }
}
