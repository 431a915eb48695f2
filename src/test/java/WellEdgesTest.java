/** The boundary cases of Term 1, its wells, and of Promises 1 to 6 and 25: a test for each sentence that names one. */
public final class WellEdgesTest {
    private static final int BAD = HotGround.BAD, FULL = HotGround.FULL;
    private static final int LEAST = Integer.MIN_VALUE, MOST = Integer.MAX_VALUE;

    private WellEdgesTest() {
    }

    public static void main(String[] args) {
        pressuresAre0To20();
        wellsAre8AtMost();
        aWellThatIsNotThere();
        kindsAre0To2();
        boxesAre0To3();
        ageIs0AtFirst();
        openIsNotAtFirst();
        cornersAre0To200();
        noCornerIsAboveTheOneBefore();
        cornersStandAtTheirPressures();
        besideTheCorners();
        ageOf20AndMoreGivesNothing();
        scaledIsRoundedDown();
        plainKeepsItsFlowAtAnyAge();
        testedGives1000AtMost();
        aboutIs0To8();
        openTellsWhatItWas();
        cleanOfAnyAge();
        traceOfEachKind();
        traceOfRefusedCalls();
        aNewObjectIsEmpty();
        Check.end();
    }

    private static HotGround flat(int kind, int corner) {
        HotGround x = new HotGround();
        x.well(kind, 0, corner, corner, corner, corner, corner);
        x.open(0, true);
        return x;
    }

    /** "PRESSURES are 0 .. 20." */
    private static void pressuresAre0To20() {
        HotGround x = flat(0, 200);
        Check.due("flow at 0", x.flow(0, 0), 1000);
        Check.due("flow at 20", x.flow(0, 20), 1000);
        for (int p : new int[] {LEAST, -1, 21, MOST}) {
            Check.due("flow at " + p, x.flow(0, p), BAD);
        }
    }

    /** "WELLS (8 at most), numbered from 0 on" and "FULL". */
    private static void wellsAre8AtMost() {
        HotGround x = new HotGround();
        for (int n = 0; n < 8; n++) {
            Check.due("well " + n, x.well(0, 0, 10 + n, 0, 0, 0, 0), n);
        }
        for (int times = 0; times < 2; times++) {
            Check.due("a ninth", x.well(0, 0, 99, 0, 0, 0, 0), FULL);
            Check.due("eight stand", x.count(0), 8);
            Check.due("no well 8", x.about(8, 0), BAD);
        }
        for (int n = 0; n < 8; n++) {
            Check.due("well " + n + " is its own", x.about(n, 4), 10 + n);
            Check.due("well " + n + " gives its own", x.flow(n, 0), 50 + 5 * n);
        }
    }

    /** "BAD (.. there is no such thing)": with none, one and eight wells. */
    private static void aWellThatIsNotThere() {
        for (int wells = 0; wells <= 8; wells = wells == 0 ? 1 : wells * 8) {
            HotGround x = new HotGround();
            for (int n = 0; n < wells; n++) {
                x.well(2, 0, 9, 9, 9, 9, 9);
            }
            for (int n : new int[] {LEAST, -1, wells, MOST}) {
                Check.due(wells + " wells: open " + n, x.open(n, true), BAD);
                Check.due(wells + " wells: clean " + n, x.clean(n), BAD);
                Check.due(wells + " wells: flow of " + n, x.flow(n, 0), BAD);
                Check.due(wells + " wells: about " + n, x.about(n, 0), BAD);
            }
            Check.due(wells + " wells: none is open", x.count(4), 0);
            if (wells > 0) {
                Check.due(wells + " wells: the first", x.open(0, true), 0);
                Check.due(wells + " wells: the last", x.about(wells - 1, 4), 9);
            }
        }
    }

    /** "KINDS ..: 0 PLAIN, 1 SCALED, 2 TESTED". */
    private static void kindsAre0To2() {
        HotGround x = new HotGround();
        for (int kind : new int[] {LEAST, -1, 3, MOST}) {
            Check.due("kind " + kind, x.well(kind, 0, 1, 1, 1, 1, 1), BAD);
        }
        Check.due("none stands", x.count(0), 0);
        Check.due("the least kind", x.well(0, 0, 1, 1, 1, 1, 1), 0);
        Check.due("the greatest kind", x.well(2, 0, 1, 1, 1, 1, 1), 1);
        Check.due("plain is told", x.about(0, 0), 0);
        Check.due("tested is told", x.about(1, 0), 2);
    }

    /** "Each has a BOX 0 .. 3". */
    private static void boxesAre0To3() {
        HotGround x = new HotGround();
        for (int box : new int[] {LEAST, -1, 4, MOST}) {
            Check.due("box " + box, x.well(0, box, 1, 1, 1, 1, 1), BAD);
        }
        Check.due("none stands", x.count(0), 0);
        Check.due("box 0", x.well(0, 0, 1, 1, 1, 1, 1), 0);
        Check.due("box 3", x.well(0, 3, 1, 1, 1, 1, 1), 1);
        Check.due("box 0 is told", x.about(0, 1), 0);
        Check.due("box 3 is told", x.about(1, 1), 3);
    }

    /** "an AGE (0 at first)": a well that comes late is new, too. */
    private static void ageIs0AtFirst() {
        HotGround x = flat(0, 9);
        Check.due("the first", x.about(0, 2), 0);
        x.year(20);
        x.well(0, 0, 9, 9, 9, 9, 9);
        Check.due("a late one", x.about(1, 2), 0);
        Check.due("the first then", x.about(0, 2), 20);
    }

    /** "is OPEN or not (not at first)". */
    private static void openIsNotAtFirst() {
        HotGround x = new HotGround();
        x.well(0, 0, 200, 200, 200, 200, 200);
        Check.due("not open", x.about(0, 3), 0);
        Check.due("none is open", x.count(4), 0);
        Check.due("no steam", x.at(0, 0), 0);
        Check.due("its flow can be asked all the same", x.flow(0, 0), 1000);
        x.year(1);
        Check.due("it is no year older", x.about(0, 2), 0);
    }

    /** "five CORNERS, 0 .. 200 each". */
    private static void cornersAre0To200() {
        HotGround x = new HotGround();
        for (int place = 0; place < 5; place++) {
            for (int v : new int[] {LEAST, -1, 201, MOST}) {
                int[] c = {200, 200, 200, 200, 200};
                for (int i = place; i < 5 && v < 0; i++) {
                    c[i] = i == place ? v : 0;
                }
                c[place] = v;
                Check.due("corner " + place + " of " + v, x.well(0, 0, c[0], c[1], c[2], c[3], c[4]), BAD);
            }
            int[] below = {0, 0, 0, 0, 0};
            below[place] = -1;
            Check.due("corner " + place + " below the others of 0",
                    x.well(0, 0, below[0], below[1], below[2], below[3], below[4]), BAD);
        }
        Check.due("none stands", x.count(0), 0);
        Check.due("all of 200", x.well(0, 0, 200, 200, 200, 200, 200), 0);
        Check.due("all of 0", x.well(0, 0, 0, 0, 0, 0, 0), 1);
        for (int p = 0; p <= 20; p++) {
            Check.due("the most at " + p, x.flow(0, p), 1000);
            Check.due("nothing at " + p, x.flow(1, p), 0);
        }
    }

    /** "none above the one before it": as high is fine, one above is not, at each place. */
    private static void noCornerIsAboveTheOneBefore() {
        HotGround x = new HotGround();
        for (int place = 1; place < 5; place++) {
            int[] c = {90, 70, 50, 30, 10};
            c[place] = c[place - 1] + 1;
            Check.due("one above at " + place, x.well(0, 0, c[0], c[1], c[2], c[3], c[4]), BAD);
            Check.due("none stands", x.count(0), place - 1);
            c[place] = c[place - 1];
            Check.due("as high at " + place, x.well(0, 0, c[0], c[1], c[2], c[3], c[4]), place - 1);
            Check.due("as high is told", x.about(place - 1, 4 + place), c[place - 1]);
        }
        Check.due("above the first, though not the one before", x.well(0, 0, 9, 0, 9, 0, 0), BAD);
    }

    /** "at PRESSURES 0, 5, 10, 15, 20": there the corner alone counts; the last has none after it. */
    private static void cornersStandAtTheirPressures() {
        HotGround x = new HotGround();
        x.well(0, 0, 200, 100, 50, 10, 3);
        x.well(0, 0, 200, 0, 0, 0, 0);
        x.well(0, 0, 1, 1, 1, 1, 1);
        int[] due = {1000, 500, 250, 50, 15};
        for (int k = 0; k < 5; k++) {
            Check.due("at corner " + k, x.flow(0, 5 * k), due[k]);
            Check.due("one corner alone, at corner " + k, x.flow(1, 5 * k), k == 0 ? 1000 : 0);
        }
        // the row after it in the ground of numbers is another well's
        Check.due("the last corner, with a well after it", x.flow(0, 20), 15);
        Check.due("the last corner of the last well", x.flow(2, 20), 5);
    }

    /** "P = 5 k + r (r 0 .. 4)": the pressures just beside the corners. */
    private static void besideTheCorners() {
        HotGround x = new HotGround();
        x.well(0, 0, 200, 100, 50, 10, 3);
        int[] at = {1, 4, 6, 9, 11, 14, 16, 19};
        int[] due = {900, 600, 450, 300, 210, 90, 43, 22};
        for (int i = 0; i < at.length; i++) {
            Check.due("at " + at[i], x.flow(0, at[i]), due[i]);
        }
    }

    /** "up times 20 - AGE (0 for an AGE of 20 and more), by 20". */
    private static void ageOf20AndMoreGivesNothing() {
        for (int kind = 1; kind <= 2; kind++) {
            HotGround x = flat(kind, 200);
            Check.due("at age 0", x.flow(0, 0), 1000);
            x.year(19);
            Check.due("at age 19", x.flow(0, 0), 50);
            x.year(1);
            Check.due("at age 20", x.flow(0, 0), 0);
            x.year(1);
            Check.due("at age 21, not below 0", x.flow(0, 0), 0);
            x.year(20);
            Check.due("at age 41, not below 0", x.flow(0, 20), 0);
            Check.due("no steam", x.at(0, 0), 0);
            Check.due("no water", x.at(2, 0), 0);
        }
    }

    /** "by 20, rounded down": 5 times 20 - AGE by 20. */
    private static void scaledIsRoundedDown() {
        HotGround x = flat(1, 1);
        int[] due = {5, 4, 4, 4, 4, 3, 3, 3, 3, 2, 2, 2, 2, 1, 1, 1, 1, 0, 0, 0, 0, 0};
        for (int age = 0; age < due.length; age++) {
            Check.due("at age " + age, x.flow(0, 7), due[age]);
            x.year(1);
        }
    }

    private static void plainKeepsItsFlowAtAnyAge() {
        HotGround x = flat(0, 200);
        x.year(19);
        Check.due("at age 19", x.flow(0, 0), 1000);
        x.year(1);
        Check.due("at age 20", x.flow(0, 0), 1000);
        x.year(20);
        Check.due("at age 40", x.flow(0, 0), 1000);
        Check.due("its age", x.about(0, 2), 40);
    }

    /** "TESTED: up, but 1000 at most": the most that up can be is just that. */
    private static void testedGives1000AtMost() {
        HotGround x = new HotGround();
        x.well(2, 0, 200, 200, 200, 200, 199);
        Check.due("just 1000", x.flow(0, 15), 1000);
        Check.due("just below", x.flow(0, 16), 999);
        Check.due("5 below", x.flow(0, 20), 995);
        x.open(0, true);
        x.year(1);
        Check.due("scaled first", x.flow(0, 0), 950);
    }

    /** "0 KIND, 1 BOX, 2 AGE, 3 whether it is OPEN, 4 .. 8 CORNERS. BAD." */
    private static void aboutIs0To8() {
        HotGround x = new HotGround();
        x.well(0, 0, 99, 99, 99, 99, 99);
        x.well(1, 2, 50, 40, 30, 20, 10);
        x.well(0, 0, 88, 88, 88, 88, 88);
        Check.due("the least", x.about(1, 0), 1);
        Check.due("the first corner", x.about(1, 4), 50);
        Check.due("the last corner", x.about(1, 8), 10);
        Check.due("not open", x.about(1, 3), 0);
        x.open(1, true);
        Check.due("open", x.about(1, 3), 1);
        Check.due("the one before it is not", x.about(0, 3), 0);
        Check.due("the one after it is not", x.about(2, 3), 0);
        for (int what : new int[] {LEAST, -1, 9, MOST}) {
            Check.due("about what " + what, x.about(1, what), BAD);
        }
        Check.due("neither is there", x.about(3, 9), BAD);
    }

    /** "A WELL becomes OPEN, or not: what it was (1, 0)." */
    private static void openTellsWhatItWas() {
        HotGround x = new HotGround();
        x.well(0, 0, 1, 1, 1, 1, 1);
        Check.due("not, of one that is not", x.open(0, false), 0);
        Check.due("still none", x.count(4), 0);
        Check.due("open", x.open(0, true), 0);
        Check.due("open, of one that is", x.open(0, true), 1);
        Check.due("one alone", x.count(4), 1);
        Check.due("not", x.open(0, false), 1);
        Check.due("none again", x.count(4), 0);
    }

    /** "its AGE becomes 0: what it was." */
    private static void cleanOfAnyAge() {
        HotGround x = flat(1, 200);
        Check.due("of age 0", x.clean(0), 0);
        x.year(1);
        Check.due("of age 1", x.clean(0), 1);
        x.year(20);
        Check.due("of age 20", x.clean(0), 20);
        Check.due("as new", x.flow(0, 0), 1000);
        x.year(20);
        x.year(20);
        Check.due("of age 40", x.clean(0), 40);
        Check.due("no age is left", x.about(0, 2), 0);
        Check.due("the years are not gone", x.sum(7), 61);
    }

    /** "numbers in brackets come to THE TRACE as often as flow() asks that body". */
    private static void traceOfEachKind() {
        int[] due = {1, 11, 111};
        for (int kind = 0; kind <= 2; kind++) {
            HotGround x = flat(kind, 0);
            Check.due("nothing asked", x.trace(), 0);
            Check.due("a flow of nothing", x.flow(0, 0), 0);
            Check.due("kind " + kind + " is asked", x.trace(), due[kind]);
            x.open(0, false);
            x.flow(0, 20);
            Check.due("kind " + kind + " is asked, not open", x.trace(), 2 * due[kind]);
            x.open(0, true);
            x.year(20);
            x.flow(0, 20);
            Check.due("kind " + kind + " is asked, of age 20", x.trace(), 3 * due[kind]);
            Check.due("asking for the trace leaves none", x.trace(), 3 * due[kind]);
        }
    }

    private static void traceOfRefusedCalls() {
        HotGround x = flat(2, 200);
        x.flow(0, -1);
        x.flow(0, 21);
        x.flow(1, 0);
        x.flow(-1, 0);
        Check.due("no flow was told", x.trace(), 0);
        x.flow(0, 0);
        x.flow(0, 21);
        Check.due("one was", x.trace(), 111);
    }

    /** "No WELLS, TURBINES, CANDIDATES; BOXES are empty." Also beside an object that is not new. */
    private static void aNewObjectIsEmpty() {
        HotGround other = flat(2, 200);
        other.turbine(0, 1, 1);
        other.candidate(1, 0, 1);
        other.put(1);
        other.fill(0, 5, 5);
        other.flow(0, 0);
        other.year(1);
        HotGround x = new HotGround();
        for (int what = 0; what <= 5; what++) {
            Check.due("count " + what, x.count(what), 0);
        }
        for (int box = 0; box <= 3; box++) {
            Check.due("mass of box " + box, x.box(box, 0), 0);
            Check.due("heat of box " + box, x.box(box, 1), 0);
        }
        for (int what = 0; what <= 8; what++) {
            Check.due("sum " + what, x.sum(what), 0);
        }
        Check.due("trace", x.trace(), 0);
        Check.due("the first well is 0", x.well(0, 0, 1, 1, 1, 1, 1), 0);
        Check.due("the first turbine is 0", x.turbine(0, 1, 1), 0);
        Check.due("the first candidate is 0", x.candidate(1, 0, 1), 0);
    }
}
