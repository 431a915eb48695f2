/** Promises 1 to 6 and 25: a new object, well, open, clean, flow, about, trace. */
public final class WellsTest {
    private WellsTest() {
    }

    public static void main(String[] args) {
        newObject();
        numbersAndRoom();
        aboutTellsAll();
        cornersFall();
        openTellsWhatItWas();
        plainFlow();
        scaledFlow();
        testedFlow();
        cleanTellsWhatItWas();
        traceCountsFlowAlone();
        Check.end();
    }

    private static void newObject() {
        HotGround x = new HotGround();
        for (int what = 0; what <= 5; what++) {
            Check.due("new: count " + what, x.count(what), 0);
        }
        for (int box = 0; box <= 3; box++) {
            Check.due("new: mass " + box, x.box(box, 0), 0);
            Check.due("new: heat " + box, x.box(box, 1), 0);
        }
        for (int what = 0; what <= 8; what++) {
            Check.due("new: sum " + what, x.sum(what), 0);
        }
        for (int year = 0; year <= 16; year++) {
            Check.due("new: back " + year, x.back(year), 0);
        }
        Check.due("new: point", x.point(), 20);
        Check.due("new: plan", x.plan(0), 0);
        Check.due("new: cost", x.plan(1), 0);
        Check.due("new: trace", x.trace(), 0);
        Check.due("new: flow", x.flow(0, 0), HotGround.BAD);
        Check.due("new: on", x.on(0, true), HotGround.BAD);
        Check.due("new: lacks", x.lacks(1, 0), HotGround.BAD);
        Check.due("new: cut", x.cut(), HotGround.STATE);
    }

    private static void numbersAndRoom() {
        HotGround x = new HotGround();
        for (int n = 0; n < 8; n++) {
            Check.due("well " + n, x.well(n % 3, n % 4, 5, 4, 3, 2, 1), n);
            Check.due("count after well " + n, x.count(0), n + 1);
        }
        Check.due("ninth well", x.well(0, 0, 5, 4, 3, 2, 1), HotGround.FULL);
        Check.due("BAD before FULL", x.well(3, 0, 5, 4, 3, 2, 1), HotGround.BAD);
        Check.due("BAD corner before FULL", x.well(0, 0, 5, 4, 3, 2, 3), HotGround.BAD);
        Check.due("count of wells", x.count(0), 8);
    }

    private static void aboutTellsAll() {
        HotGround x = new HotGround();
        x.well(2, 3, 200, 150, 100, 50, 7);
        x.well(1, 0, 9, 8, 8, 8, 0);
        int[] first = {2, 3, 0, 0, 200, 150, 100, 50, 7};
        int[] second = {1, 0, 0, 0, 9, 8, 8, 8, 0};
        for (int what = 0; what <= 8; what++) {
            Check.due("about(0, " + what + ")", x.about(0, what), first[what]);
            Check.due("about(1, " + what + ")", x.about(1, what), second[what]);
        }
        x.open(1, true);
        x.year(3);
        Check.due("age of an open well", x.about(1, 2), 3);
        Check.due("an open well is told", x.about(1, 3), 1);
        Check.due("age of a well not open", x.about(0, 2), 0);
        Check.due("a well not open is told", x.about(0, 3), 0);
    }

    private static void cornersFall() {
        HotGround x = new HotGround();
        Check.due("all 0", x.well(0, 0, 0, 0, 0, 0, 0), 0);
        Check.due("all 200", x.well(0, 0, 200, 200, 200, 200, 200), 1);
        Check.due("a over 200", x.well(0, 0, 201, 200, 200, 200, 200), HotGround.BAD);
        Check.due("b over a", x.well(0, 0, 10, 11, 0, 0, 0), HotGround.BAD);
        Check.due("c over b", x.well(0, 0, 10, 9, 10, 0, 0), HotGround.BAD);
        Check.due("d over c", x.well(0, 0, 10, 9, 8, 9, 0), HotGround.BAD);
        Check.due("e over d", x.well(0, 0, 10, 9, 8, 7, 8), HotGround.BAD);
        Check.due("e below 0", x.well(0, 0, 10, 9, 8, 7, -1), HotGround.BAD);
        Check.due("a below 0", x.well(0, 0, -1, -1, -1, -1, -1), HotGround.BAD);
        Check.due("none of them stands", x.count(0), 2);
    }

    private static void openTellsWhatItWas() {
        HotGround x = new HotGround();
        x.well(0, 0, 5, 4, 3, 2, 1);
        x.well(0, 0, 5, 4, 3, 2, 1);
        Check.due("open first", x.open(0, true), 0);
        Check.due("open again", x.open(0, true), 1);
        Check.due("the other stays", x.about(1, 3), 0);
        Check.due("shut", x.open(0, false), 1);
        Check.due("shut again", x.open(0, false), 0);
        Check.due("shut is told", x.about(0, 3), 0);
    }

    private static void plainFlow() {
        HotGround x = new HotGround();
        x.well(0, 0, 200, 150, 100, 50, 0);
        for (int p = 0; p <= 20; p++) {
            Check.due("even flow at " + p, x.flow(0, p), 1000 - 50 * p);
        }
        x.well(0, 0, 100, 37, 36, 1, 0);
        int[] due = {500, 437, 374, 311, 248, 185, 184, 183, 182, 181, 180,
                     145, 110, 75, 40, 5, 4, 3, 2, 1, 0};
        for (int p = 0; p <= 20; p++) {
            Check.due("uneven flow at " + p, x.flow(1, p), due[p]);
        }
        x.well(0, 0, 9, 9, 9, 9, 9);
        Check.due("the last corner", x.flow(2, 20), 45);
        x.open(0, true);
        x.year(20);
        Check.due("a plain well does not scale", x.flow(0, 3), 850);
        Check.due("BAD pressure", x.flow(0, 21), HotGround.BAD);
        Check.due("BAD pressure below", x.flow(0, -1), HotGround.BAD);
        Check.due("BAD well", x.flow(3, 0), HotGround.BAD);
    }

    private static void scaledFlow() {
        HotGround x = new HotGround();
        x.well(1, 0, 37, 37, 37, 37, 37);
        x.well(1, 0, 37, 37, 37, 37, 37);
        x.open(0, true);
        Check.due("age 0", x.flow(0, 11), 185);
        x.year(1);
        Check.due("age 1: 175.75", x.flow(0, 11), 175);
        x.year(6);
        Check.due("age 7: 120.25", x.flow(0, 0), 120);
        x.year(12);
        Check.due("age 19: 9.25", x.flow(0, 20), 9);
        x.year(1);
        Check.due("age 20", x.flow(0, 0), 0);
        x.year(1);
        Check.due("age 21", x.flow(0, 0), 0);
        x.year(20);
        Check.due("age 41", x.flow(0, 0), 0);
        Check.due("not open: not older", x.flow(1, 0), 185);
        x.clean(0);
        Check.due("cleaned", x.flow(0, 0), 185);
    }

    private static void testedFlow() {
        HotGround x = new HotGround();
        x.well(2, 0, 200, 200, 199, 37, 37);
        Check.due("tested: 1000 at most", x.flow(0, 5), 1000);
        Check.due("tested: below", x.flow(0, 6), 999);
        x.open(0, true);
        x.year(7);
        Check.due("tested at age 7", x.flow(0, 0), 650);
        Check.due("tested at age 7: 120.25", x.flow(0, 20), 120);
        x.year(20);
        Check.due("tested at age 27", x.flow(0, 0), 0);
    }

    private static void cleanTellsWhatItWas() {
        HotGround x = new HotGround();
        x.well(0, 0, 5, 4, 3, 2, 1);
        x.well(0, 0, 5, 4, 3, 2, 1);
        x.open(0, true);
        x.open(1, true);
        x.year(5);
        x.open(1, false);
        x.year(3);
        Check.due("clean an open one", x.clean(0), 8);
        Check.due("clean again", x.clean(0), 0);
        Check.due("still open", x.about(0, 3), 1);
        Check.due("the other's age", x.about(1, 2), 5);
        Check.due("clean a shut one", x.clean(1), 5);
        x.year(2);
        Check.due("older anew", x.about(0, 2), 2);
        Check.due("shut: not older", x.about(1, 2), 0);
    }

    private static void traceCountsFlowAlone() {
        HotGround x = new HotGround();
        x.well(0, 0, 200, 150, 100, 50, 0);
        x.well(1, 0, 200, 150, 100, 50, 0);
        x.well(2, 0, 200, 150, 100, 50, 0);
        x.open(0, true);
        x.open(1, true);
        x.open(2, true);
        x.turbine(0, 5, 100);
        x.at(0, 3);
        x.at(2, 3);
        x.point();
        x.year(20);
        Check.due("at, point, year leave no trace", x.trace(), 0);
        x.flow(0, 3);
        Check.due("plain: 1", x.trace(), 1);
        x.flow(1, 0);
        Check.due("scaled, of age 20: 10 + 1", x.trace(), 12);
        x.flow(2, 20);
        Check.due("tested: 100 + 10 + 1", x.trace(), 123);
        x.flow(2, 21);
        x.flow(3, 0);
        x.flow(-1, 0);
        Check.due("refused: no trace", x.trace(), 123);
        for (int i = 0; i < 400; i++) {
            x.flow(2, i % 21);
        }
        Check.due("400 more", x.trace(), 123 + 400 * 111);
    }
}
