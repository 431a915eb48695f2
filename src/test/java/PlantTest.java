/** Promises 7 to 10: turbine, on, at, point. */
public final class PlantTest {
    private PlantTest() {
    }

    public static void main(String[] args) {
        numbersAndRoom();
        edgesOfATurbine();
        supplyIsRoundedEachForItself();
        supplyIsOfOpenWells();
        drawOfOneTurbine();
        drawOfSeveral();
        pointWhereBothMeet();
        pointAtTheEnds();
        pointFollowsScale();
        Check.end();
    }

    private static void numbersAndRoom() {
        HotGround x = new HotGround();
        for (int n = 0; n < 4; n++) {
            Check.due("turbine " + n, x.turbine(n, 1, 1), n);
        }
        Check.due("fifth turbine", x.turbine(0, 1, 1), HotGround.FULL);
        Check.due("BAD before FULL", x.turbine(0, 0, 1), HotGround.BAD);
        Check.due("count of turbines", x.count(1), 4);
        Check.due("all are on", x.count(5), 4);
        Check.due("trips", x.on(2, false), 1);
        Check.due("tripped already", x.on(2, false), 0);
        Check.due("three are on", x.count(5), 3);
        Check.due("on again", x.on(2, true), 0);
        Check.due("on already", x.on(2, true), 1);
        Check.due("no such turbine", x.on(4, true), HotGround.BAD);
        Check.due("no such turbine below", x.on(-1, true), HotGround.BAD);
    }

    private static void edgesOfATurbine() {
        HotGround x = new HotGround();
        Check.due("least 21", x.turbine(21, 1, 1), HotGround.BAD);
        Check.due("least -1", x.turbine(-1, 1, 1), HotGround.BAD);
        Check.due("rate 0", x.turbine(0, 0, 1), HotGround.BAD);
        Check.due("rate 41", x.turbine(0, 41, 1), HotGround.BAD);
        Check.due("most 0", x.turbine(0, 1, 0), HotGround.BAD);
        Check.due("most 2001", x.turbine(0, 1, 2001), HotGround.BAD);
        Check.due("none stands", x.count(1), 0);
        Check.due("the least of all", x.turbine(0, 1, 1), 0);
        Check.due("the most of all", x.turbine(20, 40, 2000), 1);
    }

    private static void supplyIsRoundedEachForItself() {
        HotGround x = new HotGround();
        x.well(0, 0, 1, 1, 1, 1, 1);
        x.well(0, 1, 1, 1, 1, 1, 1);
        x.open(0, true);
        x.open(1, true);
        Check.due("1.5 and 1.5 are 2", x.at(0, 0), 2);
        Check.due("the rest is water", x.at(2, 0), 8);
        Check.due("at 20: 1 and 1", x.at(0, 20), 2);
        x.well(0, 0, 199, 199, 199, 199, 199);
        x.open(0, false);
        x.open(1, false);
        x.open(2, true);
        for (int p = 0; p <= 20; p++) {
            Check.due("steam at " + p, x.at(0, p), 995 * (300 - 5 * p) / 1000);
            Check.due("water at " + p, x.at(2, p), 995 - 995 * (300 - 5 * p) / 1000);
        }
    }

    private static void supplyIsOfOpenWells() {
        HotGround x = new HotGround();
        x.well(0, 0, 200, 200, 200, 200, 200);
        x.well(0, 0, 100, 100, 100, 100, 100);
        Check.due("none is open", x.at(0, 0), 0);
        Check.due("none is open: water", x.at(2, 0), 0);
        x.open(1, true);
        Check.due("one is open", x.at(0, 0), 150);
        Check.due("one is open: water", x.at(2, 0), 350);
        x.open(0, true);
        Check.due("two are open", x.at(0, 0), 450);
        Check.due("no such thing", x.at(3, 0), HotGround.BAD);
        Check.due("no such thing below", x.at(-1, 0), HotGround.BAD);
        Check.due("no such pressure", x.at(0, 21), HotGround.BAD);
        Check.due("no such pressure below", x.at(1, -1), HotGround.BAD);
    }

    private static void drawOfOneTurbine() {
        HotGround x = new HotGround();
        x.turbine(5, 10, 150);
        Check.due("below its least", x.at(1, 4), 0);
        Check.due("at its least", x.at(1, 5), 60);
        Check.due("rate times P + 1", x.at(1, 13), 140);
        Check.due("just its most", x.at(1, 14), 150);
        Check.due("its most", x.at(1, 15), 150);
        Check.due("its most at 20", x.at(1, 20), 150);
        x.on(0, false);
        Check.due("tripped", x.at(1, 20), 0);
    }

    private static void drawOfSeveral() {
        HotGround x = new HotGround();
        x.turbine(0, 1, 2000);
        x.turbine(10, 40, 2000);
        x.turbine(20, 40, 2000);
        x.turbine(0, 40, 1);
        Check.due("all at 0", x.at(1, 0), 2);
        Check.due("all at 10", x.at(1, 10), 11 + 440 + 1);
        Check.due("all at 20", x.at(1, 20), 21 + 840 + 840 + 1);
        x.on(1, false);
        Check.due("three at 20", x.at(1, 20), 21 + 840 + 1);
    }

    /** The well gives 300, 236, 174, 114 of steam at 0, 1, 2, 3. */
    private static void pointWhereBothMeet() {
        HotGround x = new HotGround();
        x.well(0, 0, 200, 0, 0, 0, 0);
        x.open(0, true);
        Check.due("nothing draws", x.point(), 20);
        x.turbine(0, 40, 2000);
        Check.due("120 of 174, but 160 of 114", x.point(), 2);
        x.turbine(0, 40, 54);
        Check.due("just 174 of 174", x.point(), 2);
        x.on(1, false);
        x.turbine(0, 40, 55);
        Check.due("175 of 174", x.point(), 1);
        x.on(2, false);
        Check.due("both are off", x.point(), 2);
        x.open(0, false);
        Check.due("no steam", x.point(), HotGround.NONE);
        x.on(0, false);
        Check.due("no steam, none wanted", x.point(), 20);
    }

    private static void pointAtTheEnds() {
        HotGround x = new HotGround();
        x.turbine(0, 1, 1);
        Check.due("no well at all", x.point(), HotGround.NONE);
        x.on(0, false);
        x.turbine(1, 40, 2000);
        Check.due("drawn from 1 on", x.point(), 0);
        x.on(1, false);
        x.turbine(20, 40, 2000);
        Check.due("drawn from 20 on", x.point(), 19);
        x.well(0, 0, 200, 200, 200, 200, 200);
        x.open(0, true);
        Check.due("200 of 840", x.point(), 19);
        x.on(2, false);
        x.turbine(20, 40, 200);
        Check.due("200 of 200", x.point(), 20);
    }

    private static void pointFollowsScale() {
        HotGround x = new HotGround();
        x.well(1, 0, 200, 200, 200, 200, 200);
        x.open(0, true);
        x.turbine(0, 10, 2000);
        Check.due("a new well: 200 of 205 at 19, 210 of 200 at 20", x.point(), 19);
        x.year(10);
        Check.due("half of it: 120 of 122.5 at 11", x.point(), 11);
        x.year(10);
        Check.due("nothing", x.point(), HotGround.NONE);
        x.clean(0);
        Check.due("cleaned", x.point(), 19);
    }
}
