/** Promises 11 to 15: fill, set, year, box, sum. */
public final class YearsTest {
    private YearsTest() {
    }

    public static void main(String[] args) {
        fillTellsABox();
        setTellsWhatItWas();
        setKeepsToItsBounds();
        wellsTakeMassAndHeat();
        wellsTakeOneAfterTheOther();
        noMassNoHeat();
        aPartIsGivenBack();
        leaksGoBothWays();
        leaksGoOneAfterTheOther();
        everyLeakIsItsOwn();
        feedComesLast();
        yearsWithoutAPoint();
        boughtIsWhatWasDrawn();
        thePointIsLookedForEveryYear();
        yearsAreCounted();
        heatsBeyondAnInt();
        Check.end();
    }

    private static void boxes(String what, HotGround x, long... due) {
        for (int box = 0; box < 4; box++) {
            Check.due(what + ": mass " + box, x.box(box, 0), due[2 * box]);
            Check.due(what + ": heat " + box, x.box(box, 1), due[2 * box + 1]);
        }
    }

    private static void sums(String what, HotGround x, long... due) {
        for (int i = 0; i < due.length; i++) {
            Check.due(what + ": sum " + i, x.sum(i), due[i]);
        }
    }

    private static void fillTellsABox() {
        HotGround x = new HotGround();
        Check.due("fill", x.fill(0, 10000000, 0), 1);
        Check.due("fill", x.fill(3, 0, 10000000), 1);
        Check.due("fill", x.fill(1, 5, 6), 1);
        boxes("filled", x, 10000000, 0, 5, 6, 0, 0, 0, 10000000);
        Check.due("fill anew", x.fill(1, 4, 3), 1);
        Check.due("mass over", x.fill(1, 10000001, 3), HotGround.BAD);
        Check.due("mass under", x.fill(1, -1, 3), HotGround.BAD);
        Check.due("heat over", x.fill(1, 4, 10000001), HotGround.BAD);
        Check.due("heat under", x.fill(1, 4, -1), HotGround.BAD);
        Check.due("box over", x.fill(4, 4, 3), HotGround.BAD);
        Check.due("box under", x.fill(-1, 4, 3), HotGround.BAD);
        boxes("filled anew", x, 10000000, 0, 4, 3, 0, 0, 0, 10000000);
        Check.due("box over", x.box(4, 0), -1);
        Check.due("box under", x.box(-1, 0), -1);
        Check.due("what over", x.box(0, 2), -1);
        Check.due("what under", x.box(0, -1), -1);
        Check.due("sum over", x.sum(9), -1);
        Check.due("sum under", x.sum(-1), -1);
    }

    private static void setTellsWhatItWas() {
        HotGround x = new HotGround();
        for (int which = 0; which < 3; which++) {
            Check.due("leak at first", x.set(0, which, 2 + which), 1000);
        }
        for (int which = 0; which < 3; which++) {
            Check.due("leak then", x.set(0, which, 1000), 2 + which);
        }
        for (int which = 0; which < 4; which++) {
            Check.due("feed at first", x.set(1, which, 1000 - which), 0);
        }
        for (int which = 0; which < 4; which++) {
            Check.due("feed then", x.set(1, which, 0), 1000 - which);
        }
        Check.due("share at first", x.set(2, 0, 1000), 0);
        Check.due("share then", x.set(2, 0, 0), 1000);
        Check.due("box at first", x.set(2, 1, 3), 0);
        Check.due("box then", x.set(2, 1, 2), 3);
        Check.due("share stays", x.set(2, 0, 0), 0);
    }

    private static void setKeepsToItsBounds() {
        HotGround x = new HotGround();
        Check.due("leak 1", x.set(0, 0, 1), HotGround.BAD);
        Check.due("leak 1001", x.set(0, 0, 1001), HotGround.BAD);
        Check.due("leak of 3", x.set(0, 3, 5), HotGround.BAD);
        Check.due("leak of -1", x.set(0, -1, 5), HotGround.BAD);
        Check.due("feed -1", x.set(1, 0, -1), HotGround.BAD);
        Check.due("feed 1001", x.set(1, 0, 1001), HotGround.BAD);
        Check.due("feed of 4", x.set(1, 4, 5), HotGround.BAD);
        Check.due("feed of -1", x.set(1, -1, 5), HotGround.BAD);
        Check.due("share -1", x.set(2, 0, -1), HotGround.BAD);
        Check.due("share 1001", x.set(2, 0, 1001), HotGround.BAD);
        Check.due("box 4", x.set(2, 1, 4), HotGround.BAD);
        Check.due("box -1", x.set(2, 1, -1), HotGround.BAD);
        Check.due("which 2", x.set(2, 2, 0), HotGround.BAD);
        Check.due("which -1", x.set(2, -1, 0), HotGround.BAD);
        Check.due("what 3", x.set(3, 0, 5), HotGround.BAD);
        Check.due("what -1", x.set(-1, 0, 5), HotGround.BAD);
        Check.due("nothing has changed: leak", x.set(0, 0, 2), 1000);
        Check.due("nothing has changed: feed", x.set(1, 0, 0), 0);
        Check.due("nothing has changed: share", x.set(2, 0, 0), 0);
        Check.due("nothing has changed: box", x.set(2, 1, 0), 0);
    }

    /** No turbine: the point is 20, where the wells give 5 times their last corner. */
    private static void wellsTakeMassAndHeat() {
        HotGround x = new HotGround();
        x.well(0, 2, 200, 200, 200, 200, 20);
        x.well(0, 2, 200, 200, 200, 200, 200);
        x.open(0, true);
        x.fill(1, 700, 7);
        x.fill(2, 700, 1000);
        x.fill(3, 700, 9);
        Check.due("a year", x.year(1), 1);
        // 100 of 700 with 1000 of heat: 142.8
        boxes("taken", x, 0, 0, 700, 7, 600, 858, 700, 9);
        sums("taken", x, 100, 142, 0, 0, 0, 0, 0, 1, 0);
    }

    private static void wellsTakeOneAfterTheOther() {
        HotGround x = new HotGround();
        x.well(0, 0, 20, 20, 20, 20, 20);
        x.well(0, 0, 20, 20, 20, 20, 20);
        x.well(0, 0, 20, 20, 20, 20, 20);
        x.open(0, true);
        x.open(1, true);
        x.open(2, true);
        x.fill(0, 250, 101);
        x.year(1);
        // 100 with 40 of 101, 100 with 40 of 61, 50 with all 21
        sums("dry", x, 250, 101, 0, 0, 0, 0, 0, 1, 0);
        boxes("dry", x, 0, 0, 0, 0, 0, 0, 0, 0);
        x.fill(0, 350, 101);
        x.year(1);
        // 28 of 101, 29 of 73, 29 of 44
        sums("one by one", x, 550, 187, 0, 0, 0, 0, 0, 2, 0);
        boxes("one by one", x, 50, 15, 0, 0, 0, 0, 0, 0);
    }

    private static void noMassNoHeat() {
        HotGround x = new HotGround();
        x.well(0, 1, 20, 20, 20, 20, 20);
        x.open(0, true);
        x.fill(1, 0, 12345);
        x.fill(2, 0, 54321);
        x.set(2, 0, 1000);
        x.year(2);
        boxes("no mass", x, 0, 0, 0, 12345, 0, 54321, 0, 0);
        sums("no mass", x, 0, 0, 0, 0, 0, 0, 0, 2, 0);
        HotGround y = new HotGround();
        y.well(0, 1, 20, 20, 20, 20, 20);
        y.open(0, true);
        y.fill(1, 1, 77);
        y.year(1);
        sums("a mass of 1 takes all the heat", y, 1, 77, 0, 0, 0, 0, 0, 1, 0);
        boxes("a mass of 1 takes all the heat", y, 0, 0, 0, 0, 0, 0, 0, 0);
    }

    private static void aPartIsGivenBack() {
        HotGround x = new HotGround();
        x.well(0, 0, 20, 20, 20, 20, 20);
        x.well(0, 1, 20, 20, 20, 20, 19);
        x.open(0, true);
        x.open(1, true);
        x.fill(0, 100, 1000);
        x.fill(1, 95, 0);
        x.fill(3, 5, 6);
        x.set(2, 0, 333);
        x.set(2, 1, 3);
        x.year(1);
        // 195 in all: 64.9 of it, not 33.3 and 31.6
        boxes("given back", x, 0, 0, 0, 0, 0, 0, 69, 6 + 2560);
        sums("given back", x, 195, 1000, 64, 2560, 0, 0, 0, 1, 0);
        x.fill(0, 100, 1000);
        x.set(2, 0, 1000);
        x.set(2, 1, 0);
        x.year(1);
        boxes("all is given back", x, 100, 4000, 0, 0, 0, 0, 69, 2566);
        sums("all is given back", x, 295, 2000, 164, 6560, 0, 0, 0, 2, 0);
    }

    private static void leaksGoBothWays() {
        HotGround x = new HotGround();
        x.fill(0, 107, 50);
        x.fill(1, 100, 60);
        x.set(0, 0, 2);
        x.year(1);
        // 3.5: 3 with 3 * 50 / 107
        boxes("forth", x, 104, 49, 103, 61, 0, 0, 0, 0);
        x.fill(0, 100, 60);
        x.fill(1, 107, 50);
        x.year(1);
        boxes("back", x, 103, 61, 104, 49, 0, 0, 0, 0);
        x.fill(0, 107, 50);
        x.fill(1, 107, 60);
        x.year(1);
        boxes("even", x, 107, 50, 107, 60, 0, 0, 0, 0);
        x.fill(0, 1106, 50);
        x.set(0, 0, 1000);
        x.year(1);
        boxes("999 by 1000", x, 1106, 50, 107, 60, 0, 0, 0, 0);
    }

    private static void leaksGoOneAfterTheOther() {
        HotGround x = new HotGround();
        x.fill(0, 800, 8000);
        x.set(0, 0, 2);
        x.set(0, 1, 2);
        x.set(0, 2, 2);
        x.year(1);
        boxes("down", x, 400, 4000, 200, 2000, 100, 1000, 100, 1000);
        HotGround y = new HotGround();
        y.fill(3, 800, 8000);
        y.set(0, 0, 2);
        y.set(0, 1, 2);
        y.set(0, 2, 2);
        y.year(1);
        boxes("up", y, 0, 0, 0, 0, 400, 4000, 400, 4000);
    }

    private static void everyLeakIsItsOwn() {
        HotGround x = new HotGround();
        x.fill(0, 10000, 10000);
        x.set(0, 0, 10);
        x.set(0, 1, 4);
        x.set(0, 2, 5);
        x.year(1);
        // 1000 over the first, 250 over the second, 50 over the third
        boxes("each its own", x, 9000, 9000, 750, 750, 200, 200, 50, 50);
    }

    private static void feedComesLast() {
        HotGround x = new HotGround();
        x.set(1, 0, 1000);
        x.set(1, 2, 1);
        x.set(0, 0, 2);
        x.set(0, 1, 2);
        x.set(0, 2, 2);
        x.year(1);
        boxes("fed", x, 1000, 10000, 0, 0, 1, 10, 0, 0);
        x.year(1);
        // 500 leaks into 1, 249 on into 2, 125 on into 3; then the feed
        boxes("leaked, fed", x, 1500, 15000, 251, 2510, 126, 1260, 125, 1250);
        sums("fed", x, 0, 0, 0, 0, 2002, 20020, 0, 2, 0);
    }

    private static void yearsWithoutAPoint() {
        HotGround x = new HotGround();
        x.well(0, 0, 0, 0, 0, 0, 0);
        x.well(1, 1, 200, 200, 200, 200, 200);
        x.open(0, true);
        x.turbine(0, 1, 1);
        x.fill(0, 1000, 1000);
        x.set(0, 0, 10);
        x.set(1, 3, 7);
        x.set(2, 0, 1000);
        Check.due("no point", x.point(), HotGround.NONE);
        x.year(1);
        boxes("no point", x, 900, 900, 100, 100, 0, 0, 7, 70);
        sums("no point", x, 0, 0, 0, 0, 7, 70, 0, 1, 1);
        Check.due("an open well is older all the same", x.about(0, 2), 1);
        Check.due("a shut one is not", x.about(1, 2), 0);
        x.on(0, false);
        x.year(2);
        Check.due("years with a point do not count there", x.sum(8), 1);
    }

    private static void boughtIsWhatWasDrawn() {
        HotGround x = new HotGround();
        x.well(0, 0, 200, 0, 0, 0, 0);
        x.open(0, true);
        x.turbine(0, 40, 2000);
        x.turbine(0, 40, 54);
        x.turbine(3, 40, 2000);
        x.year(1);
        Check.due("draw at the point, though the box is empty", x.sum(6), 174);
        x.fill(0, 1000, 0);
        x.year(1);
        Check.due("the flow at the point", x.sum(0), 600);
        x.on(1, false);
        x.year(2);
        Check.due("120 twice", x.sum(6), 174 * 2 + 120 * 2);
        x.open(0, false);
        x.year(3);
        Check.due("nothing without a point", x.sum(6), 588);
        Check.due("three years without", x.sum(8), 3);
    }

    private static void thePointIsLookedForEveryYear() {
        HotGround x = new HotGround();
        x.well(1, 0, 200, 200, 200, 200, 200);
        x.open(0, true);
        x.turbine(0, 10, 2000);
        x.fill(0, 1000000, 1000000);
        x.year(3);
        // ages 0, 1, 2: flows 1000, 950, 900; points 19, 18, 17
        Check.due("taken", x.sum(0), 2850);
        Check.due("bought", x.sum(6), 200 + 190 + 180);
        Check.due("the next point", x.point(), 17);
    }

    private static void yearsAreCounted() {
        HotGround x = new HotGround();
        Check.due("one", x.year(1), 1);
        Check.due("twenty", x.year(20), 21);
        Check.due("none", x.year(0), HotGround.BAD);
        Check.due("21", x.year(21), HotGround.BAD);
        Check.due("-1", x.year(-1), HotGround.BAD);
        Check.due("so many", x.sum(7), 21);
        Check.due("two more", x.year(2), 23);
        Check.due("all had a point", x.sum(8), 0);
    }

    /** 5,000,000 of mass times 10,000,000 of heat is more than an int holds, and the sums pass it too. */
    private static void heatsBeyondAnInt() {
        HotGround x = new HotGround();
        x.set(0, 0, 2);
        x.fill(0, 10000000, 10000000);
        x.year(1);
        // 5000000 go over, 5000 of them on into box 2, 5 of them on into box 3
        boxes("half", x, 5000000, 5000000, 4995000, 4995000, 4995, 4995, 5, 5);
        HotGround y = new HotGround();
        for (int w = 0; w < 8; w++) {
            y.well(0, 0, 200, 200, 200, 200, 200);
            y.open(w, true);
        }
        y.set(2, 0, 1000);
        y.set(2, 1, 3);
        for (int i = 0; i < 350; i++) {
            if (i % 40 == 0) {
                y.fill(0, 10000000, 10000000);
            }
            y.year(20);
        }
        Check.due("7000 years of 8000", y.sum(0), 56000000);
        Check.due("all given back", y.sum(2), 56000000);
        Check.due("40 for each", y.sum(3), 2240000000L);
        Check.due("7000 years", y.sum(7), 7000);
    }
}
