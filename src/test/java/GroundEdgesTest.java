/** The boundary cases of Term 2 and of Promises 11 to 15: a test for each sentence that names one. */
public final class GroundEdgesTest {
    private static final int BAD = HotGround.BAD, NONE = HotGround.NONE;
    private static final int LEAST = Integer.MIN_VALUE, MOST = Integer.MAX_VALUE;

    private GroundEdgesTest() {
    }

    public static void main(String[] args) {
        massIsToldUpTo10000000();
        heatIsToldUpTo10000000();
        boxesAre0To3();
        fillTakesThePlaceOfWhatWas();
        leaksAre2To1000();
        feedIs0To1000();
        theShareIs0To1000();
        theBoxThatIsToldIs0To3();
        setOfWhatIsNotThere();
        whatThereIsAtMost();
        noMassGivesNoHeat();
        wellsTakeByNumbers();
        wellsThatAreNotOpenTakeNothing();
        givenBackIsRoundedDown();
        givenBackIsOfAllInAll();
        givenBackAfterAllHaveTaken();
        givenBackBeforeTheLeaks();
        leaksAreRoundedTowards0();
        leaksOfTheLeastLeak();
        heatGoesWithTheMass();
        noLeakJoinsTheLastBoxToTheFirst();
        leaksOfBoxesWithoutMass();
        feedIsTooLateForItsYear();
        lastEachIsAYearOlder();
        noPointNothingTaken();
        boughtIsNotTheRest();
        yearIs1To20();
        twentyYearsAreTwentyTimesOne();
        boxIsMassOrHeat();
        sumIs0To8();
        sumsBeyondAnInt();
        theGreatestNumbers();
        Check.end();
    }

    private static void boxes(String what, HotGround x, long... due) {
        for (int box = 0; box < 4; box++) {
            Check.due(what + ": mass " + box, x.box(box, 0), due[2 * box]);
            Check.due(what + ": heat " + box, x.box(box, 1), due[2 * box + 1]);
        }
    }

    private static void sums(String what, HotGround x, long... due) {
        for (int i = 0; i < due.length; i++) {
            Check.due(what + ": sum " + i, x.sum(i), due[i]);
        }
    }

    /** A PLAIN well that gives 5 times its corner wherever the point is; without a turbine that is 20. */
    private static void flat(HotGround x, int box, int corner) {
        int well = x.well(0, box, corner, corner, corner, corner, corner);
        x.open(well, true);
    }

    /** "MASS .. (told 0 .. 10000000". */
    private static void massIsToldUpTo10000000() {
        HotGround x = new HotGround();
        Check.due("at first", x.box(0, 0), 0);
        for (int mass : new int[] {LEAST, -1, 10000001, MOST}) {
            Check.due("mass " + mass, x.fill(0, mass, 5), BAD);
        }
        boxes("nothing is told", x, 0, 0, 0, 0, 0, 0, 0, 0);
        Check.due("the most", x.fill(0, 10000000, 5), 1);
        Check.due("the most stands", x.box(0, 0), 10000000);
        Check.due("nothing", x.fill(0, 0, 5), 1);
        Check.due("nothing stands", x.box(0, 0), 0);
    }

    /** "HEAT (told 0 .. 10000000; 0 at first)". */
    private static void heatIsToldUpTo10000000() {
        HotGround x = new HotGround();
        Check.due("at first", x.box(3, 1), 0);
        for (int heat : new int[] {LEAST, -1, 10000001, MOST}) {
            Check.due("heat " + heat, x.fill(3, 5, heat), BAD);
        }
        boxes("nothing is told", x, 0, 0, 0, 0, 0, 0, 0, 0);
        Check.due("the most, in no mass", x.fill(3, 0, 10000000), 1);
        Check.due("the most stands", x.box(3, 1), 10000000);
        Check.due("nothing", x.fill(3, 0, 0), 1);
        Check.due("nothing stands", x.box(3, 1), 0);
    }

    /** "BOXES 0 .. 3". */
    private static void boxesAre0To3() {
        HotGround x = new HotGround();
        for (int box : new int[] {LEAST, -1, 4, MOST}) {
            Check.due("fill of " + box, x.fill(box, 1, 1), BAD);
            Check.due("mass of " + box, x.box(box, 0), -1);
            Check.due("heat of " + box, x.box(box, 1), -1);
            Check.due("feed of " + box, x.set(1, box, 1), BAD);
        }
        Check.due("the first", x.fill(0, 1, 2), 1);
        Check.due("the last", x.fill(3, 3, 4), 1);
        boxes("first and last", x, 1, 2, 0, 0, 0, 0, 3, 4);
    }

    /** "MASS, HEAT of a BOX": they become what is told, nothing is added. */
    private static void fillTakesThePlaceOfWhatWas() {
        HotGround x = new HotGround();
        x.fill(1, 10000000, 10000000);
        x.fill(1, 10000000, 10000000);
        boxes("twice", x, 0, 0, 10000000, 10000000, 0, 0, 0, 0);
        x.fill(1, 0, 0);
        boxes("emptied", x, 0, 0, 0, 0, 0, 0, 0, 0);
        sums("no well took it", x, 0, 0, 0, 0, 0, 0, 0, 0, 0);
    }

    /** "there is a LEAK 2 .. 1000 (1000 at first)", LEAKS 0 .. 2. */
    private static void leaksAre2To1000() {
        HotGround x = new HotGround();
        for (int v : new int[] {LEAST, -1, 0, 1, 1001, MOST}) {
            Check.due("a leak of " + v, x.set(0, 0, v), BAD);
        }
        for (int which : new int[] {LEAST, -1, 3, MOST}) {
            Check.due("leak " + which, x.set(0, which, 5), BAD);
        }
        for (int which = 0; which <= 2; which++) {
            Check.due("the least for leak " + which, x.set(0, which, 2), 1000);
            Check.due("the most for leak " + which, x.set(0, which, 1000), 2);
            Check.due("the same for leak " + which, x.set(0, which, 1000), 1000);
        }
    }

    /** "FEED (MASS 0 .. 1000 a YEAR, 0 at first, 10 HEAT for each)". */
    private static void feedIs0To1000() {
        HotGround x = new HotGround();
        for (int v : new int[] {LEAST, -1, 1001, MOST}) {
            Check.due("a feed of " + v, x.set(1, 3, v), BAD);
        }
        x.year(1);
        boxes("at first", x, 0, 0, 0, 0, 0, 0, 0, 0);
        Check.due("the most", x.set(1, 3, 1000), 0);
        Check.due("the least", x.set(1, 0, 1), 0);
        x.year(1);
        boxes("fed", x, 1, 10, 0, 0, 0, 0, 1000, 10000);
        Check.due("no more", x.set(1, 3, 0), 1000);
        sums("fed", x, 0, 0, 0, 0, 1001, 10010, 0, 2, 0);
    }

    /** "the share (thousandths, 0 at first..) that is told". */
    private static void theShareIs0To1000() {
        HotGround x = new HotGround();
        for (int v : new int[] {LEAST, -1, 1001, MOST}) {
            Check.due("a share of " + v, x.set(2, 0, v), BAD);
        }
        Check.due("the most", x.set(2, 0, 1000), 0);
        Check.due("the least", x.set(2, 0, 0), 1000);
        Check.due("1", x.set(2, 0, 1), 0);
    }

    /** "into the BOX that is told (0 at first)". */
    private static void theBoxThatIsToldIs0To3() {
        HotGround x = new HotGround();
        for (int v : new int[] {LEAST, -1, 4, MOST}) {
            Check.due("box " + v, x.set(2, 1, v), BAD);
        }
        flat(x, 2, 20);
        x.fill(2, 200, 0);
        x.set(2, 0, 1000);
        x.year(1);
        boxes("into 0 at first", x, 100, 4000, 0, 0, 100, 0, 0, 0);
        Check.due("the last", x.set(2, 1, 3), 0);
        x.year(1);
        boxes("then into 3", x, 100, 4000, 0, 0, 0, 0, 100, 4000);
        Check.due("the first", x.set(2, 1, 0), 3);
    }

    /** "A LEAK (0 .. 2), what = 0; FEED of a BOX, 1; the share .. (which 0), into which BOX (which 1), 2 .. BAD." */
    private static void setOfWhatIsNotThere() {
        HotGround x = new HotGround();
        for (int what : new int[] {LEAST, -1, 3, MOST}) {
            Check.due("what " + what, x.set(what, 0, 2), BAD);
        }
        for (int which : new int[] {LEAST, -1, 2, MOST}) {
            Check.due("which " + which + " of 2", x.set(2, which, 2), BAD);
        }
        Check.due("leak 3, though there is a feed 3", x.set(0, 3, 2), BAD);
        Check.due("feed 3", x.set(1, 3, 2), 0);
        Check.due("none of them stands: leak", x.set(0, 0, 2), 1000);
        Check.due("none of them stands: feed", x.set(1, 0, 2), 0);
        Check.due("none of them stands: share", x.set(2, 0, 2), 0);
        Check.due("none of them stands: box", x.set(2, 1, 2), 0);
    }

    /** "takes from its BOX MASS as its FLOW there (what there is at most)": a flow of 100 from masses about it. */
    private static void whatThereIsAtMost() {
        int[] mass = {0, 1, 99, 100, 101};
        int[] taken = {0, 1, 99, 100, 100};
        int[] warmth = {0, 50, 50, 50, 49};
        for (int i = 0; i < mass.length; i++) {
            HotGround x = new HotGround();
            flat(x, 1, 20);
            x.fill(1, mass[i], 50);
            x.year(1);
            String what = "a mass of " + mass[i];
            boxes(what, x, 0, 0, mass[i] - taken[i], 50 - warmth[i], 0, 0, 0, 0);
            sums(what, x, taken[i], warmth[i], 0, 0, 0, 0, 0, 1, 0);
        }
    }

    /** "of its HEAT that MASS times HEAT by MASS": by nothing, where there is no mass. */
    private static void noMassGivesNoHeat() {
        HotGround x = new HotGround();
        for (int box = 0; box < 4; box++) {
            flat(x, box, 200);
            flat(x, box, 200);
            x.fill(box, 0, 10000000);
        }
        x.set(2, 0, 1000);
        x.year(20);
        boxes("heat without mass", x, 0, 10000000, 0, 10000000, 0, 10000000, 0, 10000000);
        sums("heat without mass", x, 0, 0, 0, 0, 0, 0, 0, 20, 0);
        HotGround y = new HotGround();
        flat(y, 0, 20);
        y.fill(0, 1000, 0);
        y.year(1);
        boxes("mass without heat", y, 900, 0, 0, 0, 0, 0, 0, 0);
        sums("mass without heat", y, 100, 0, 0, 0, 0, 0, 0, 1, 0);
    }

    /** "each OPEN WELL, by numbers, takes .. as they are, rounded down". */
    private static void wellsTakeByNumbers() {
        HotGround x = new HotGround();
        flat(x, 0, 2);
        flat(x, 0, 20);
        x.fill(0, 113, 35);
        x.year(1);
        // 10 of 113 with 3.1 of 35, then 100 of 103 with 31.1 of 32
        sums("the lesser first", x, 110, 34);
        boxes("the lesser first", x, 3, 1, 0, 0, 0, 0, 0, 0);
        HotGround y = new HotGround();
        flat(y, 0, 20);
        flat(y, 0, 2);
        y.fill(0, 113, 35);
        y.year(1);
        // 100 of 113 with 30.97 of 35, then 10 of 13 with 3.8 of 5
        sums("the greater first", y, 110, 33);
        boxes("the greater first", y, 3, 2, 0, 0, 0, 0, 0, 0);
    }

    private static void wellsThatAreNotOpenTakeNothing() {
        HotGround x = new HotGround();
        x.fill(0, 500, 500);
        x.year(1);
        sums("no well", x, 0, 0, 0, 0, 0, 0, 0, 1, 0);
        flat(x, 0, 20);
        x.open(0, false);
        x.year(1);
        sums("one that is not open", x, 0, 0, 0, 0, 0, 0, 0, 2, 0);
        boxes("one that is not open", x, 500, 500, 0, 0, 0, 0, 0, 0);
    }

    /** "the share (thousandths..; rounded down) .. with a HEAT of 40 for each". */
    private static void givenBackIsRoundedDown() {
        int[] share = {0, 1, 1, 999, 999, 1000, 1000, 500};
        int[] taken = {1000, 999, 1000, 1, 1000, 1, 1000, 0};
        int[] due = {0, 0, 1, 0, 999, 1, 1000, 0};
        for (int i = 0; i < share.length; i++) {
            HotGround x = new HotGround();
            flat(x, 3, 200);
            x.fill(3, taken[i], 7);
            x.set(2, 0, share[i]);
            x.year(1);
            String what = share[i] + " thousandths of " + taken[i];
            sums(what, x, taken[i], taken[i] == 0 ? 0 : 7, due[i], 40L * due[i], 0, 0, 0, 1, 0);
        }
    }

    /** "of what was taken in all": 2 of two wells, of which each took 1. */
    private static void givenBackIsOfAllInAll() {
        HotGround x = new HotGround();
        flat(x, 1, 20);
        flat(x, 2, 20);
        x.fill(1, 1, 0);
        x.fill(2, 1, 0);
        x.set(2, 0, 500);
        x.year(1);
        sums("half of 2", x, 2, 0, 1, 40);
        boxes("half of 2", x, 1, 40, 0, 0, 0, 0, 0, 0);
    }

    /** The second well finds the box dry, though all comes back into it. */
    private static void givenBackAfterAllHaveTaken() {
        HotGround x = new HotGround();
        flat(x, 0, 20);
        flat(x, 0, 20);
        x.fill(0, 100, 0);
        x.set(2, 0, 1000);
        x.year(1);
        sums("taken once", x, 100, 0, 100, 4000);
        boxes("all is back", x, 100, 4000, 0, 0, 0, 0, 0, 0);
    }

    private static void givenBackBeforeTheLeaks() {
        HotGround x = new HotGround();
        flat(x, 3, 200);
        x.fill(3, 1000, 0);
        x.set(2, 0, 1000);
        x.set(0, 0, 2);
        x.year(1);
        boxes("half of it leaks on", x, 500, 20000, 500, 20000, 0, 0, 0, 0);
    }

    /** "of MASS the difference of both BOXES by it, rounded towards 0, goes from the greater to the lesser one". */
    private static void leaksAreRoundedTowards0() {
        int[] difference = {0, 9, 10, 19, 20};
        int[] due = {0, 0, 1, 1, 2};
        for (int i = 0; i < due.length; i++) {
            for (int leak = 0; leak < 3; leak++) {
                for (int greater = 0; greater < 2; greater++) {
                    HotGround x = new HotGround();
                    for (int box = 0; box < 4; box++) {
                        x.fill(box, 100, 0);
                    }
                    x.fill(leak + greater, 100 + difference[i], 0);
                    x.set(0, leak, 10);
                    x.year(1);
                    String what = difference[i] + " by 10, leak " + leak + ", from box " + (leak + greater);
                    Check.due(what, x.box(leak + greater, 0), 100 + difference[i] - due[i]);
                    Check.due(what + ": the other", x.box(leak + 1 - greater, 0), 100 + due[i]);
                }
            }
        }
    }

    /** A LEAK of 2 makes both as high, or leaves a difference of 1; one of 1000 lets the thousandth part go. */
    private static void leaksOfTheLeastLeak() {
        int[] mass = {100, 101, 102, 103};
        int[] due = {0, 0, 1, 1};
        for (int i = 0; i < mass.length; i++) {
            HotGround x = new HotGround();
            x.set(0, 0, 2);
            x.fill(0, mass[i], 0);
            x.fill(1, 100, 0);
            x.year(1);
            boxes("a leak of 2", x, mass[i] - due[i], 0, 100 + due[i], 0, 0, 0, 0, 0);
            HotGround y = new HotGround();
            y.set(0, 0, 2);
            y.fill(0, 100, 0);
            y.fill(1, mass[i], 0);
            y.year(1);
            boxes("a leak of 2 back", y, 100 + due[i], 0, mass[i] - due[i], 0, 0, 0, 0, 0);
        }
        HotGround z = new HotGround();
        z.fill(3, 999, 999);
        z.year(1);
        boxes("999 by 1000", z, 0, 0, 0, 0, 0, 0, 999, 999);
        z.fill(3, 1000, 1000);
        z.year(1);
        boxes("1000 by 1000", z, 0, 0, 0, 0, 1, 1, 999, 999);
    }

    /** "with it HEAT as above": of the greater one's, rounded down; the lesser one keeps what it has. */
    private static void heatGoesWithTheMass() {
        int[] heat = {0, 109, 110, 219, 220};
        int[] due = {0, 0, 1, 1, 2};
        for (int i = 0; i < heat.length; i++) {
            HotGround x = new HotGround();
            x.set(0, 1, 10);
            x.fill(1, 110, heat[i]);
            x.fill(2, 100, 5000);
            x.year(1);
            boxes("1 of 110 with " + heat[i], x, 0, 0, 109, heat[i] - due[i], 101, 5000 + due[i], 0, 0);
            HotGround y = new HotGround();
            y.set(0, 1, 10);
            y.fill(1, 100, 5000);
            y.fill(2, 110, heat[i]);
            y.year(1);
            boxes("back: 1 of 110 with " + heat[i], y, 0, 0, 101, 5000 + due[i], 109, heat[i] - due[i], 0, 0);
        }
    }

    /** "between 0 and 1, 1 and 2, 2 and 3": none between 3 and 0. */
    private static void noLeakJoinsTheLastBoxToTheFirst() {
        HotGround x = new HotGround();
        for (int leak = 0; leak < 3; leak++) {
            x.set(0, leak, 2);
        }
        x.fill(3, 800, 800);
        x.year(1);
        boxes("the last leaks to its neighbour", x, 0, 0, 0, 0, 400, 400, 400, 400);
        HotGround y = new HotGround();
        y.set(0, 0, 2);
        y.fill(0, 800, 800);
        y.year(1);
        boxes("the first leaks to its neighbour", y, 400, 400, 400, 400, 0, 0, 0, 0);
    }

    private static void leaksOfBoxesWithoutMass() {
        HotGround x = new HotGround();
        for (int leak = 0; leak < 3; leak++) {
            x.set(0, leak, 2);
        }
        x.year(20);
        boxes("empty boxes", x, 0, 0, 0, 0, 0, 0, 0, 0);
        x.fill(0, 0, 9);
        x.fill(3, 0, 8);
        x.year(1);
        boxes("heat alone stays", x, 0, 9, 0, 0, 0, 0, 0, 8);
        x.fill(1, 10, 100);
        x.set(0, 1, 1000);
        x.year(1);
        boxes("mass comes to heat alone", x, 5, 59, 5, 50, 0, 0, 0, 8);
    }

    /** "then each BOX gets FEED": no well takes it and no leak moves it in its year. */
    private static void feedIsTooLateForItsYear() {
        HotGround x = new HotGround();
        flat(x, 0, 20);
        x.set(1, 0, 50);
        x.set(1, 3, 40);
        x.set(0, 2, 2);
        x.year(1);
        sums("nothing to take", x, 0, 0, 0, 0, 90, 900);
        boxes("fed", x, 50, 500, 0, 0, 0, 0, 40, 400);
        x.year(1);
        sums("the first feed is taken", x, 50, 500, 0, 0, 180, 1800);
        boxes("fed again", x, 50, 500, 0, 0, 20, 200, 60, 600);
    }

    /** "Last each OPEN WELL is a YEAR older (AGE).": a year runs with the ages before it. */
    private static void lastEachIsAYearOlder() {
        HotGround x = new HotGround();
        int well = x.well(1, 0, 200, 200, 200, 200, 200);
        x.fill(0, 10000000, 0);
        x.year(1);
        Check.due("not open: no older", x.about(well, 2), 0);
        x.open(well, true);
        x.year(1);
        Check.due("of age 0", x.sum(0), 1000);
        x.year(1);
        Check.due("of age 1", x.sum(0), 1950);
        x.year(17);
        Check.due("of ages 2 to 18", x.sum(0), 10450);
        x.year(1);
        Check.due("of age 19", x.sum(0), 10500);
        x.year(1);
        Check.due("of age 20", x.sum(0), 10500);
        Check.due("its age", x.about(well, 2), 21);
    }

    /** "first, where THE POINT is": where there is none, leaks, feed and ages go on alone. */
    private static void noPointNothingTaken() {
        HotGround x = new HotGround();
        flat(x, 0, 0);
        x.well(0, 0, 200, 200, 200, 200, 200);
        x.turbine(0, 1, 1);
        x.fill(0, 1000, 1000);
        x.set(0, 0, 2);
        x.set(1, 1, 3);
        x.set(2, 0, 1000);
        Check.due("none", x.point(), NONE);
        Check.due("a year all the same", x.year(1), 1);
        boxes("no point", x, 500, 500, 503, 530, 0, 0, 0, 0);
        sums("no point", x, 0, 0, 0, 0, 3, 30, 0, 1, 1);
        Check.due("an open one is older", x.about(0, 2), 1);
        Check.due("the other is not", x.about(1, 2), 0);
        x.on(0, false);
        Check.due("twenty with a point", x.year(20), 21);
        Check.due("years without a point", x.sum(8), 1);
        x.on(0, true);
        Check.due("twenty without", x.year(20), 41);
        Check.due("years without a point", x.sum(8), 21);
    }

    /** "STEAM beyond DRAW goes into the air" and "BOUGHT, ever: STEAM that the TURBINES DREW". */
    private static void boughtIsNotTheRest() {
        HotGround x = new HotGround();
        flat(x, 0, 200);
        x.year(1);
        Check.due("no turbine", x.sum(6), 0);
        x.turbine(0, 1, 1);
        x.year(1);
        Check.due("1 of 200", x.sum(6), 1);
        x.turbine(0, 40, 199);
        x.year(1);
        Check.due("all 200", x.sum(6), 201);
        x.turbine(20, 1, 1);
        x.year(1);
        Check.due("200 of 205 at 19", x.sum(6), 401);
        x.on(0, false);
        x.on(1, false);
        x.on(2, false);
        x.year(1);
        Check.due("all are off", x.sum(6), 401);
    }

    /** "So many YEARS (1 .. 20): how many there were ever. BAD." */
    private static void yearIs1To20() {
        HotGround x = new HotGround();
        for (int n : new int[] {LEAST, -1, 0, 21, MOST}) {
            Check.due("years " + n, x.year(n), BAD);
        }
        Check.due("none was", x.sum(7), 0);
        Check.due("one", x.year(1), 1);
        Check.due("twenty", x.year(20), 21);
        Check.due("refused in between", x.year(21), BAD);
        Check.due("one more", x.year(1), 22);
    }

    private static HotGround busy() {
        HotGround x = new HotGround();
        for (int n = 0; n < 8; n++) {
            x.well(n % 3, n % 4, 200 - n, 150, 100, 50, 20 + n);
            x.open(n, true);
        }
        x.turbine(3, 20, 300);
        for (int box = 0; box < 4; box++) {
            x.fill(box, 3000 * box + 1, 70000);
            x.set(1, box, 100 * box);
        }
        x.set(0, 1, 7);
        x.set(2, 0, 777);
        return x;
    }

    private static void twentyYearsAreTwentyTimesOne() {
        HotGround x = busy();
        HotGround y = busy();
        x.year(20);
        for (int n = 1; n <= 20; n++) {
            Check.due("year by year", y.year(1), n);
        }
        for (int what = 0; what <= 8; what++) {
            Check.due("sum " + what, x.sum(what), y.sum(what));
        }
        for (int box = 0; box < 4; box++) {
            Check.due("mass " + box, x.box(box, 0), y.box(box, 0));
            Check.due("heat " + box, x.box(box, 1), y.box(box, 1));
        }
    }

    /** "MASS (0), HEAT (1) of a BOX. -1: BAD." */
    private static void boxIsMassOrHeat() {
        HotGround x = new HotGround();
        x.fill(2, 5, 6);
        Check.due("mass", x.box(2, 0), 5);
        Check.due("heat", x.box(2, 1), 6);
        for (int what : new int[] {LEAST, -1, 2, MOST}) {
            Check.due("what " + what, x.box(2, what), -1);
        }
        Check.due("neither is there", x.box(4, 2), -1);
    }

    /** "Ever: 0 .. 8 YEARS without a POINT. -1: BAD." */
    private static void sumIs0To8() {
        HotGround x = new HotGround();
        for (int what : new int[] {LEAST, -1, 9, MOST}) {
            Check.due("sum " + what, x.sum(what), -1);
        }
        Check.due("the first", x.sum(0), 0);
        Check.due("the last", x.sum(8), 0);
    }

    /** A sum of heat that an int would wrap: 230 times 10000000 from a mass of 1. */
    private static void sumsBeyondAnInt() {
        HotGround x = new HotGround();
        flat(x, 0, 1);
        for (int n = 1; n <= 230; n++) {
            x.fill(0, 1, 10000000);
            x.year(1);
        }
        sums("heat from a mass of 1", x, 230, 2300000000L, 0, 0, 0, 0, 0, 230, 0);
    }

    /** Boxes as full and as hot as 512 calls make them, beside the model with numbers of any size. */
    private static void theGreatestNumbers() {
        HotGround x = new HotGround();
        Model m = new Model();
        for (int n = 0; n < 8; n++) {
            x.well(0, 0, 200, 200, 200, 200, 200);
            m.well(0, 0, new int[] {200, 200, 200, 200, 200});
            x.open(n, true);
            m.open(n, true);
        }
        int[][] told = {{2, 0, 1000}, {2, 1, 3}, {1, 1, 1000}, {1, 2, 1000}, {1, 3, 1000}};
        for (int[] each : told) {
            x.set(each[0], each[1], each[2]);
            m.set(each[0], each[1], each[2]);
        }
        for (int n = 0; n < 450; n++) {
            if (n % 40 == 0) {
                x.fill(0, 10000000, 10000000);
                m.fill(0, 10000000, 10000000);
            }
            Check.due("years", x.year(20), m.year(20));
        }
        for (int what = 0; what <= 8; what++) {
            Check.due("sum " + what, x.sum(what), m.sum(what));
        }
        for (int box = 0; box < 4; box++) {
            Check.due("mass " + box, x.box(box, 0), m.box(box, 0));
            Check.due("heat " + box, x.box(box, 1), m.box(box, 1));
        }
        Check.due("more mass than may be told", x.box(3, 0) > 30000000 ? 1 : 0, 1);
        Check.due("more heat than may be told", x.box(3, 1) > 1000000000 ? 1 : 0, 1);
    }
}
