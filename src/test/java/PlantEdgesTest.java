/** The boundary cases of Term 1, its plant, and of Promises 7 to 10: a test for each sentence that names one. */
public final class PlantEdgesTest {
    private static final int BAD = HotGround.BAD, FULL = HotGround.FULL, NONE = HotGround.NONE;
    private static final int LEAST = Integer.MIN_VALUE, MOST = Integer.MAX_VALUE;

    private PlantEdgesTest() {
    }

    public static void main(String[] args) {
        turbinesAre4AtMost();
        aTurbineThatIsNotThere();
        leastIs0To20();
        rateIs1To40();
        mostIs1To2000();
        onAtFirst();
        nothingBelowItsLeast();
        itsMostAtMost();
        drawOfNoneAndOfAll();
        pressuresOfAt();
        atIs0To2();
        steamIsRoundedDown();
        eachWellForItself();
        supplyOfNoneAndOfAll();
        drawAtLeastIsEnough();
        theGreatestPressure();
        thePointIs0();
        thereIsNoPoint();
        nothingWantedNothingGiven();
        Check.end();
    }

    private static HotGround flat(int corner) {
        HotGround x = new HotGround();
        x.well(0, 0, corner, corner, corner, corner, corner);
        x.open(0, true);
        return x;
    }

    /** "THE PLANT has up to 4 TURBINES" and "FULL". */
    private static void turbinesAre4AtMost() {
        HotGround x = new HotGround();
        for (int n = 0; n < 4; n++) {
            Check.due("turbine " + n, x.turbine(0, 1 + n, 2000), n);
        }
        x.on(3, false);
        for (int times = 0; times < 2; times++) {
            Check.due("a fifth, though one is off", x.turbine(0, 40, 2000), FULL);
            Check.due("four stand", x.count(1), 4);
        }
        Check.due("no turbine 4", x.on(4, true), BAD);
        Check.due("rates 1, 2, 3", x.at(1, 0), 6);
        Check.due("the last is told", x.on(3, true), 0);
        Check.due("rates 1, 2, 3, 4", x.at(1, 0), 10);
    }

    /** "BAD (.. there is no such thing)": with none, one and four turbines. */
    private static void aTurbineThatIsNotThere() {
        for (int turbines = 0; turbines <= 4; turbines = turbines == 0 ? 1 : turbines * 4) {
            HotGround x = new HotGround();
            for (int n = 0; n < turbines; n++) {
                x.turbine(0, 1, 1);
            }
            for (int n : new int[] {LEAST, -1, turbines, MOST}) {
                Check.due(turbines + " turbines: on " + n, x.on(n, true), BAD);
                Check.due(turbines + " turbines: trip " + n, x.on(n, false), BAD);
            }
            Check.due(turbines + " turbines: all are on", x.count(5), turbines);
            if (turbines > 0) {
                Check.due(turbines + " turbines: the last", x.on(turbines - 1, false), 1);
                Check.due(turbines + " turbines: one is off", x.count(5), turbines - 1);
            }
        }
    }

    /** "a LEAST pressure (0 .. 20)". */
    private static void leastIs0To20() {
        HotGround x = new HotGround();
        for (int least : new int[] {LEAST, -1, 21, MOST}) {
            Check.due("least " + least, x.turbine(least, 1, 1), BAD);
        }
        Check.due("none stands", x.count(1), 0);
        Check.due("least 0", x.turbine(0, 1, 1), 0);
        Check.due("least 20", x.turbine(20, 1, 1), 1);
    }

    /** "a RATE (1 .. 40)". */
    private static void rateIs1To40() {
        HotGround x = new HotGround();
        for (int rate : new int[] {LEAST, -1, 0, 41, MOST}) {
            Check.due("rate " + rate, x.turbine(0, rate, 1), BAD);
        }
        Check.due("none stands", x.count(1), 0);
        Check.due("rate 1", x.turbine(0, 1, 2000), 0);
        Check.due("1 at 0", x.at(1, 0), 1);
        Check.due("rate 40", x.turbine(0, 40, 2000), 1);
        Check.due("1 and 40 at 0", x.at(1, 0), 41);
    }

    /** "a MOST (1 .. 2000)". */
    private static void mostIs1To2000() {
        HotGround x = new HotGround();
        for (int most : new int[] {LEAST, -1, 0, 2001, MOST}) {
            Check.due("most " + most, x.turbine(0, 1, most), BAD);
        }
        Check.due("none stands", x.count(1), 0);
        Check.due("most 1", x.turbine(0, 40, 1), 0);
        Check.due("1 at 20", x.at(1, 20), 1);
        Check.due("most 2000", x.turbine(0, 40, 2000), 1);
        Check.due("1 and 840 at 20", x.at(1, 20), 841);
    }

    /** "ON or not (on at first)" and "A TURBINE is ON, or trips: what it was (1, 0)". */
    private static void onAtFirst() {
        HotGround x = new HotGround();
        x.turbine(0, 1, 1);
        Check.due("it draws", x.at(1, 0), 1);
        Check.due("on, of one that is", x.on(0, true), 1);
        Check.due("one is on", x.count(5), 1);
        Check.due("trips", x.on(0, false), 1);
        Check.due("none is on", x.count(5), 0);
        Check.due("trips, of one that has", x.on(0, false), 0);
        Check.due("it draws nothing", x.at(1, 20), 0);
        Check.due("on", x.on(0, true), 0);
        Check.due("it draws again", x.at(1, 0), 1);
    }

    /** "it DRAWS at P: nothing below its LEAST". */
    private static void nothingBelowItsLeast() {
        for (int least = 0; least <= 20; least++) {
            HotGround x = new HotGround();
            x.turbine(least, 40, 2000);
            for (int p = 0; p <= 20; p++) {
                Check.due("least " + least + " at " + p, x.at(1, p), p < least ? 0 : 40 * p + 40);
            }
        }
    }

    /** "else its RATE times P + 1, its MOST at most": 840 at 20. */
    private static void itsMostAtMost() {
        int[] most = {839, 840, 841, 2000};
        int[] due = {839, 840, 840, 840};
        for (int i = 0; i < most.length; i++) {
            HotGround x = new HotGround();
            x.turbine(0, 40, most[i]);
            Check.due("most " + most[i] + " at 20", x.at(1, 20), due[i]);
            Check.due("most " + most[i] + " at 19", x.at(1, 19), 800);
        }
    }

    /** "DRAW (P): all that are ON, added." */
    private static void drawOfNoneAndOfAll() {
        HotGround x = new HotGround();
        Check.due("no turbine", x.at(1, 20), 0);
        for (int n = 0; n < 4; n++) {
            x.turbine(0, 40, 2000);
        }
        Check.due("the most of all", x.at(1, 20), 3360);
        Check.due("the most of all at 0", x.at(1, 0), 160);
        for (int n = 0; n < 4; n++) {
            x.on(n, false);
            Check.due("without " + (n + 1), x.at(1, 20), 840 * (3 - n));
        }
    }

    /** "at a PRESSURE. BAD." */
    private static void pressuresOfAt() {
        HotGround x = flat(200);
        x.turbine(0, 1, 2000);
        int[] at0 = {300, 1, 700};
        int[] at20 = {200, 21, 800};
        for (int what = 0; what <= 2; what++) {
            Check.due("at(" + what + ", 0)", x.at(what, 0), at0[what]);
            Check.due("at(" + what + ", 20)", x.at(what, 20), at20[what]);
            for (int p : new int[] {LEAST, -1, 21, MOST}) {
                Check.due("at(" + what + ", " + p + ")", x.at(what, p), BAD);
            }
        }
    }

    /** "SUPPLY (what = 0), DRAW (1), WATER of all OPEN WELLS (2)". */
    private static void atIs0To2() {
        HotGround x = flat(200);
        for (int what : new int[] {LEAST, -1, 3, MOST}) {
            Check.due("at what " + what, x.at(what, 0), BAD);
            Check.due("neither is there", x.at(what, 21), BAD);
        }
    }

    /** "STEAM is 300 - 5 P thousandths, rounded down, WATER all else." */
    private static void steamIsRoundedDown() {
        HotGround x = new HotGround();
        x.well(0, 0, 1, 0, 0, 0, 0);
        x.open(0, true);
        Check.due("1.5 of 5", x.at(0, 0), 1);
        Check.due("all else of 5", x.at(2, 0), 4);
        Check.due("0.28 of 1", x.at(0, 4), 0);
        Check.due("all else of 1", x.at(2, 4), 1);
        Check.due("of nothing", x.at(0, 5), 0);
        Check.due("nothing else of nothing", x.at(2, 5), 0);
        HotGround y = flat(2);
        Check.due("just 3 of 10", y.at(0, 0), 3);
        Check.due("2.95 of 10", y.at(0, 1), 2);
        Check.due("8 of 10", y.at(2, 1), 8);
        Check.due("2.05 of 10", y.at(0, 19), 2);
        Check.due("just 2 of 10", y.at(0, 20), 2);
        HotGround z = flat(185);
        Check.due("272.875 of 925", z.at(0, 1), 272);
        Check.due("all else of 925", z.at(2, 1), 653);
    }

    /** "SUPPLY (P): the STEAM of all WELLS that are OPEN, each for itself, added." */
    private static void eachWellForItself() {
        HotGround x = new HotGround();
        for (int n = 0; n < 8; n++) {
            x.well(0, 0, 1, 0, 0, 0, 0);
            x.open(n, true);
        }
        Check.due("eight times 1, not 12", x.at(0, 0), 8);
        Check.due("eight times 4", x.at(2, 0), 32);
        Check.due("eight times nothing, not 2", x.at(0, 4), 0);
        Check.due("eight times 1", x.at(2, 4), 8);
    }

    private static void supplyOfNoneAndOfAll() {
        HotGround x = new HotGround();
        Check.due("no well: steam", x.at(0, 0), 0);
        Check.due("no well: water", x.at(2, 0), 0);
        for (int n = 0; n < 8; n++) {
            x.well(n % 3, 0, 200, 200, 200, 200, 200);
        }
        Check.due("none is open: steam", x.at(0, 0), 0);
        Check.due("none is open: water", x.at(2, 0), 0);
        for (int n = 0; n < 8; n++) {
            x.open(n, true);
        }
        Check.due("the most of all at 0: steam", x.at(0, 0), 2400);
        Check.due("the most of all at 0: water", x.at(2, 0), 5600);
        Check.due("the most of all at 20: steam", x.at(0, 20), 1600);
        Check.due("the most of all at 20: water", x.at(2, 20), 6400);
    }

    /** "THE POINT is the greatest PRESSURE at which SUPPLY is DRAW at least": 200 of steam at 20, 205 at 19. */
    private static void drawAtLeastIsEnough() {
        int[] most = {199, 200, 201, 205, 206, 210, 211};
        int[] due = {20, 20, 19, 19, 18, 18, 17};
        for (int i = 0; i < most.length; i++) {
            HotGround x = flat(200);
            x.turbine(0, 40, most[i]);
            Check.due("drawing " + most[i], x.point(), due[i]);
        }
    }

    /** "the greatest PRESSURE": each can be the one, by a turbine that begins just above it. */
    private static void theGreatestPressure() {
        for (int least = 1; least <= 20; least++) {
            HotGround x = new HotGround();
            x.turbine(least, 1, 1);
            Check.due("drawn from " + least + " on", x.point(), least - 1);
            x.on(0, false);
            Check.due("nothing is drawn", x.point(), 20);
        }
    }

    /** 40.5 of steam at 0 for a draw of 40; at 1 31 for 80. */
    private static void thePointIs0() {
        HotGround x = new HotGround();
        x.well(0, 0, 27, 0, 0, 0, 0);
        x.open(0, true);
        x.turbine(0, 40, 2000);
        Check.due("40 for 40", x.at(0, 0) - x.at(1, 0), 0);
        Check.due("0 is a point, not none", x.point(), 0);
    }

    /** "NONE: there is none." The same with 39 of steam at 0. */
    private static void thereIsNoPoint() {
        HotGround x = new HotGround();
        x.well(0, 0, 26, 0, 0, 0, 0);
        x.open(0, true);
        x.turbine(0, 40, 2000);
        Check.due("39 for 40", x.at(0, 0) - x.at(1, 0), -1);
        Check.due("none", x.point(), NONE);
        Check.due("asked again", x.point(), NONE);
        x.on(0, false);
        Check.due("tripped", x.point(), 20);
    }

    private static void nothingWantedNothingGiven() {
        HotGround x = new HotGround();
        Check.due("a new one", x.point(), 20);
        x.well(0, 0, 0, 0, 0, 0, 0);
        x.open(0, true);
        Check.due("a well that gives nothing", x.point(), 20);
        x.turbine(20, 1, 1);
        Check.due("1 is wanted at 20", x.point(), 19);
        x.turbine(0, 1, 1);
        Check.due("1 is wanted everywhere", x.point(), NONE);
    }
}
