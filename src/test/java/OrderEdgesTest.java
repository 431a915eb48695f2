/**
 * "Refused, and nothing changes, the first of these: BAD .., STATE (as told), FULL.", and the end of the 512 calls
 * for which an object is used. That nothing changes is held for every wrong number in RefusedTest.
 */
public final class OrderEdgesTest {
    private static final int BAD = HotGround.BAD, STATE = HotGround.STATE, FULL = HotGround.FULL;

    private OrderEdgesTest() {
    }

    public static void main(String[] args) {
        badBeforeFullOfWells();
        badBeforeFullOfTurbines();
        badBeforeFullOfPutIn();
        badBeforeFullOfCandidates();
        stateOfCutAlone();
        oneRoomFullLeavesTheOthers();
        manyRefusedCallsChangeNothing();
        theLastOf512CallsTellsTheTrace();
        theLastOf512CallsIsAYear();
        Check.end();
    }

    private static HotGround full() {
        HotGround x = new HotGround();
        for (int n = 0; n < 8; n++) {
            x.well(0, 0, 10, 10, 10, 10, 10);
            x.candidate(1, 0, 1);
        }
        for (int n = 0; n < 4; n++) {
            x.turbine(0, 1, 1);
        }
        for (int n = 0; n < 12; n++) {
            x.put(1);
        }
        return x;
    }

    private static void badBeforeFullOfWells() {
        HotGround x = full();
        Check.due("full", x.well(0, 0, 0, 0, 0, 0, 0), FULL);
        Check.due("the most of all", x.well(2, 3, 200, 200, 200, 200, 200), FULL);
        Check.due("kind -1", x.well(-1, 0, 0, 0, 0, 0, 0), BAD);
        Check.due("kind 3", x.well(3, 0, 0, 0, 0, 0, 0), BAD);
        Check.due("box -1", x.well(0, -1, 0, 0, 0, 0, 0), BAD);
        Check.due("box 4", x.well(0, 4, 0, 0, 0, 0, 0), BAD);
        Check.due("a 201", x.well(0, 0, 201, 0, 0, 0, 0), BAD);
        Check.due("b above a", x.well(0, 0, 0, 1, 0, 0, 0), BAD);
        Check.due("c above b", x.well(0, 0, 1, 0, 1, 0, 0), BAD);
        Check.due("d above c", x.well(0, 0, 1, 1, 0, 1, 0), BAD);
        Check.due("e above d", x.well(0, 0, 1, 1, 1, 0, 1), BAD);
        Check.due("e -1", x.well(0, 0, 0, 0, 0, 0, -1), BAD);
        Check.due("eight stand", x.count(0), 8);
    }

    private static void badBeforeFullOfTurbines() {
        HotGround x = full();
        Check.due("full", x.turbine(0, 1, 1), FULL);
        Check.due("the most of all", x.turbine(20, 40, 2000), FULL);
        Check.due("least -1", x.turbine(-1, 1, 1), BAD);
        Check.due("least 21", x.turbine(21, 1, 1), BAD);
        Check.due("rate 0", x.turbine(0, 0, 1), BAD);
        Check.due("rate 41", x.turbine(0, 41, 1), BAD);
        Check.due("most 0", x.turbine(0, 1, 0), BAD);
        Check.due("most 2001", x.turbine(0, 1, 2001), BAD);
        Check.due("four stand", x.count(1), 4);
    }

    private static void badBeforeFullOfPutIn() {
        HotGround x = full();
        Check.due("full", x.put(0), FULL);
        Check.due("the most", x.put(1000000), FULL);
        Check.due("-1", x.put(-1), BAD);
        Check.due("1000001", x.put(1000001), BAD);
        Check.due("twelve stand", x.count(3), 12);
    }

    private static void badBeforeFullOfCandidates() {
        HotGround x = full();
        Check.due("full", x.candidate(1, 0, 1), FULL);
        Check.due("the most of all", x.candidate(1000, 5, 500), FULL);
        Check.due("cost 0", x.candidate(0, 0, 1), BAD);
        Check.due("cost 1001", x.candidate(1001, 0, 1), BAD);
        Check.due("year -1", x.candidate(1, -1, 1), BAD);
        Check.due("year 6", x.candidate(1, 6, 1), BAD);
        Check.due("steam 0", x.candidate(1, 0, 0), BAD);
        Check.due("steam 501", x.candidate(1, 0, 501), BAD);
        Check.due("eight stand", x.count(2), 8);
    }

    /** STATE is told of cut alone: what else finds nothing there is BAD. */
    private static void stateOfCutAlone() {
        HotGround x = new HotGround();
        Check.due("cut", x.cut(), STATE);
        Check.due("open", x.open(0, true), BAD);
        Check.due("clean", x.clean(0), BAD);
        Check.due("flow", x.flow(0, 0), BAD);
        Check.due("about", x.about(0, 0), BAD);
        Check.due("on", x.on(0, true), BAD);
        Check.due("lacks", x.lacks(1, 0), BAD);
        Check.due("back", x.back(0), 0);
    }

    private static void oneRoomFullLeavesTheOthers() {
        HotGround x = new HotGround();
        for (int n = 0; n < 8; n++) {
            x.well(0, 0, 1, 1, 1, 1, 1);
        }
        Check.due("wells are full", x.well(0, 0, 1, 1, 1, 1, 1), FULL);
        Check.due("turbines are not", x.turbine(0, 1, 1), 0);
        Check.due("put in is not", x.put(1), 1);
        Check.due("candidates are not", x.candidate(1, 0, 1), 0);
        for (int n = 1; n < 4; n++) {
            x.turbine(0, 1, 1);
        }
        Check.due("turbines are full", x.turbine(0, 1, 1), FULL);
        Check.due("put in is not", x.put(1), 2);
        for (int n = 2; n < 12; n++) {
            x.put(1);
        }
        Check.due("put in is full", x.put(1), FULL);
        Check.due("candidates are not", x.candidate(1, 0, 1), 1);
    }

    private static void manyRefusedCallsChangeNothing() {
        HotGround x = full();
        for (int n = 0; n < 110; n++) {
            Check.due("a ninth well", x.well(0, 0, 9, 9, 9, 9, 9), FULL);
            Check.due("a wrong flow", x.flow(8, 0), BAD);
            Check.due("too many years", x.year(21), BAD);
            Check.due("a share too many", x.share(0, 1001), BAD);
        }
        int[] due = {8, 4, 8, 12, 0, 4};
        for (int what = 0; what <= 5; what++) {
            Check.due("count " + what, x.count(what), due[what]);
        }
        Check.due("no year", x.sum(7), 0);
        Check.due("no trace", x.trace(), 0);
        Check.due("no share", x.share(0, 0), 0);
    }

    /** "An object is used for at most 512 calls": the last of them answers as the first. */
    private static void theLastOf512CallsTellsTheTrace() {
        HotGround x = new HotGround();
        x.well(2, 0, 200, 150, 100, 50, 0);
        for (int n = 0; n < 510; n++) {
            Check.due("call " + (n + 2), x.flow(0, n % 21), 1000 - 50 * (n % 21));
        }
        Check.due("call 512", x.trace(), 510 * 111);
    }

    private static void theLastOf512CallsIsAYear() {
        HotGround x = new HotGround();
        for (int n = 1; n <= 511; n++) {
            Check.due("call " + n, x.year(20), 20 * n);
        }
        Check.due("call 512", x.year(20), 10240);
        HotGround y = new HotGround();
        for (int box = 0; box < 4; box++) {
            y.set(1, box, 1000);
        }
        for (int n = 0; n < 490; n++) {
            y.year(20);
        }
        for (int box = 0; box < 4; box++) {
            Check.due("9800 years of feed: mass " + box, y.box(box, 0), 9800000);
            Check.due("9800 years of feed: heat " + box, y.box(box, 1), 98000000);
        }
        Check.due("all of it", y.sum(4), 39200000);
        Check.due("the heat of all of it", y.sum(5), 392000000);
    }
}
