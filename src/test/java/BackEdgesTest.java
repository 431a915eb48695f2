/** The boundary cases of Term 3, its kernel, and of Promises 16 to 19: a test for each sentence that names one. */
public final class BackEdgesTest {
    private static final int BAD = HotGround.BAD, STATE = HotGround.STATE, FULL = HotGround.FULL;
    private static final int LEAST = Integer.MIN_VALUE, MOST = Integer.MAX_VALUE;

    private BackEdgesTest() {
    }

    public static void main(String[] args) {
        sharesAre0To5();
        aShareIs0To1000();
        togetherJust1000();
        oneShareAloneMayBe1000();
        amountsAre0To1000000();
        yearsOfPutInAre12AtMost();
        roomAgainAfterCut();
        backInYears0To16();
        nothingPutInNothingBack();
        noShareNothingBack();
        eachIsRoundedDown();
        comesBackKYearsLater();
        theFirstAndTheLastYear();
        theGreatestAmounts();
        cutOfNothing();
        cutIsOfTheLatest();
        Check.end();
    }

    /** "A KERNEL has 6 shares", "(k 0 .. 5)". */
    private static void sharesAre0To5() {
        HotGround x = new HotGround();
        for (int k : new int[] {LEAST, -1, 6, MOST}) {
            Check.due("share " + k, x.share(k, 0), BAD);
            Check.due("share " + k + " of 1", x.share(k, 1), BAD);
        }
        for (int k = 0; k <= 5; k++) {
            Check.due("share " + k + " at first", x.share(k, k + 1), 0);
        }
        for (int k = 0; k <= 5; k++) {
            Check.due("share " + k + " is its own", x.share(k, 0), k + 1);
        }
    }

    /** "shares (thousandths..)": 0 at least. */
    private static void aShareIs0To1000() {
        HotGround x = new HotGround();
        for (int v : new int[] {LEAST, -1, 1001, MOST}) {
            Check.due("a share of " + v, x.share(0, v), BAD);
        }
        x.share(5, 1000);
        for (int v : new int[] {LEAST, -1, 1001, MOST}) {
            Check.due("beside 1000, a share of " + v, x.share(0, v), BAD);
        }
        Check.due("none of them stands", x.share(0, 0), 0);
        Check.due("the other stays", x.share(5, 1000), 1000);
    }

    /** "1000 at most together" and "BAD: also more than 1000 together." */
    private static void togetherJust1000() {
        HotGround x = new HotGround();
        for (int k = 0; k < 5; k++) {
            x.share(k, 200);
        }
        Check.due("1 over", x.share(5, 1), BAD);
        Check.due("0 more", x.share(5, 0), 0);
        for (int k = 0; k < 5; k++) {
            Check.due("1 over by one that stands: " + k, x.share(k, 201), BAD);
            Check.due("as it stands: " + k, x.share(k, 200), 200);
        }
        Check.due("one lower", x.share(2, 199), 200);
        Check.due("2 for it is 1 over", x.share(5, 2), BAD);
        Check.due("1 for it is just 1000", x.share(5, 1), 0);
        Check.due("its place is taken", x.share(2, 200), BAD);
        Check.due("it stays", x.share(2, 199), 199);
    }

    /** What a share was counts no more: of two alone one may rise by what the other leaves. */
    private static void oneShareAloneMayBe1000() {
        for (int k = 0; k <= 5; k++) {
            HotGround x = new HotGround();
            x.share(k, 999);
            Check.due("share " + k + " of 1000", x.share(k, 1000), 999);
            Check.due("share " + k + " of 1001", x.share(k, 1001), BAD);
            Check.due("share " + k + " of 0", x.share(k, 0), 1000);
            Check.due("another of 1000", x.share((k + 1) % 6, 1000), 0);
            Check.due("share " + k + " of 1", x.share(k, 1), BAD);
        }
    }

    /** "what is put in (0 .. 1000000)". */
    private static void amountsAre0To1000000() {
        HotGround x = new HotGround();
        x.share(0, 1000);
        for (int amount : new int[] {LEAST, -1, 1000001, MOST}) {
            Check.due("put " + amount, x.put(amount), BAD);
        }
        Check.due("none is told", x.count(3), 0);
        Check.due("nothing is put in, and that is a year", x.put(0), 1);
        Check.due("the most", x.put(1000000), 2);
        Check.due("nothing comes back", x.back(0), 0);
        Check.due("the most comes back", x.back(1), 1000000);
    }

    /** "PUT IN are up to 12 YEARS' amounts." and "FULL: 12." */
    private static void yearsOfPutInAre12AtMost() {
        HotGround x = new HotGround();
        x.share(0, 1000);
        for (int n = 1; n <= 12; n++) {
            Check.due("put " + n, x.put(n), n);
        }
        for (int times = 0; times < 2; times++) {
            Check.due("a thirteenth", x.put(99), FULL);
            Check.due("a thirteenth of nothing", x.put(0), FULL);
            Check.due("twelve are told", x.count(3), 12);
        }
        for (int year = 0; year <= 16; year++) {
            Check.due("year " + year, x.back(year), year < 12 ? year + 1 : 0);
        }
    }

    private static void roomAgainAfterCut() {
        HotGround x = new HotGround();
        x.share(5, 1000);
        for (int n = 0; n < 12; n++) {
            x.put(7);
        }
        Check.due("full", x.put(8), FULL);
        Check.due("cut", x.cut(), 11);
        Check.due("room for one", x.put(9), 12);
        Check.due("full again", x.put(8), FULL);
        Check.due("the new one comes back last", x.back(16), 9);
        Check.due("the one before it", x.back(15), 7);
    }

    /** "What comes back in a YEAR (0 .. 16) .. BAD." */
    private static void backInYears0To16() {
        HotGround x = new HotGround();
        x.share(0, 1000);
        x.put(5);
        for (int year : new int[] {LEAST, -1, 17, MOST}) {
            Check.due("back " + year, x.back(year), BAD);
        }
        Check.due("the first", x.back(0), 5);
        Check.due("the last", x.back(16), 0);
    }

    private static void nothingPutInNothingBack() {
        HotGround x = new HotGround();
        x.share(0, 500);
        x.share(5, 500);
        for (int year = 0; year <= 16; year++) {
            Check.due("nothing in year " + year, x.back(year), 0);
        }
    }

    private static void noShareNothingBack() {
        HotGround x = new HotGround();
        for (int n = 0; n < 12; n++) {
            x.put(1000000);
        }
        for (int year = 0; year <= 16; year++) {
            Check.due("nothing in year " + year, x.back(year), 0);
        }
    }

    /** "comes back with share k, rounded down": each amount by each share, for itself. */
    private static void eachIsRoundedDown() {
        HotGround x = new HotGround();
        x.share(0, 1);
        x.share(1, 999);
        x.put(999);
        x.put(1);
        Check.due("0.999", x.back(0), 0);
        Check.due("998.001 and 0.001", x.back(1), 998);
        Check.due("0.999 of the second", x.back(2), 0);
        x.put(1000);
        Check.due("just 1, and 0.999 not with it", x.back(2), 1);
        Check.due("just 999", x.back(3), 999);
        HotGround y = new HotGround();
        for (int k = 0; k < 6; k++) {
            y.share(k, 166);
            y.put(6);
        }
        Check.due("six times 0.996", y.back(5), 0);
        y.share(0, 167);
        Check.due("1.002 and five times 0.996", y.back(5), 1);
    }

    /** "k YEARS later (k 0 .. 5)": share 0 in its own year, share 5 five years later, nothing beside. */
    private static void comesBackKYearsLater() {
        for (int k = 0; k <= 5; k++) {
            HotGround x = new HotGround();
            x.share(k, 1000);
            x.put(0);
            x.put(0);
            x.put(11);
            for (int year = 0; year <= 16; year++) {
                Check.due("share " + k + ", year " + year, x.back(year), year == 2 + k ? 11 : 0);
            }
        }
    }

    /** Year 0 has the first amount's share 0 alone, year 16 the twelfth's share 5 alone. */
    private static void theFirstAndTheLastYear() {
        HotGround x = new HotGround();
        int[] shares = {100, 110, 120, 130, 140, 150};
        for (int k = 0; k < 6; k++) {
            x.share(k, shares[k]);
        }
        for (int n = 1; n <= 11; n++) {
            x.put(1000 * n);
        }
        Check.due("year 0", x.back(0), 100);
        Check.due("year 1: 2 and 1", x.back(1), 200 + 110);
        Check.due("year 15 of eleven", x.back(15), 11 * 150);
        Check.due("year 16 of eleven", x.back(16), 0);
        x.put(12000);
        Check.due("year 11 of twelve", x.back(11), 1200 + 1210 + 1200 + 1170 + 1120 + 1050);
        Check.due("year 12 of twelve", x.back(12), 12 * 110 + 11 * 120 + 10 * 130 + 9 * 140 + 8 * 150);
        Check.due("year 15 of twelve", x.back(15), 12 * 140 + 11 * 150);
        Check.due("year 16 of twelve", x.back(16), 12 * 150);
    }

    /** A million by a thousand, six at once: no wrap. */
    private static void theGreatestAmounts() {
        HotGround x = new HotGround();
        for (int n = 0; n < 12; n++) {
            x.put(1000000);
        }
        x.share(3, 1000);
        Check.due("by one share", x.back(14), 1000000);
        x.share(3, 500);
        for (int k = 0; k < 6; k++) {
            x.share(k, k == 3 ? 500 : 100);
        }
        Check.due("by all shares", x.back(11), 1000000);
        Check.due("by the last three", x.back(14), 700000);
    }

    /** "STATE: there is none." */
    private static void cutOfNothing() {
        HotGround x = new HotGround();
        Check.due("new", x.cut(), STATE);
        Check.due("again", x.cut(), STATE);
        Check.due("none is told", x.count(3), 0);
        Check.due("the first is year 0's", x.put(5), 1);
        x.share(0, 1000);
        Check.due("it comes back", x.back(0), 5);
        Check.due("the last one is cut", x.cut(), 0);
        Check.due("then there is none", x.cut(), STATE);
        x.put(-1);
        Check.due("a refused one is none", x.cut(), STATE);
    }

    /** "The latest YEAR's amount that was PUT IN is gone: how many are left." */
    private static void cutIsOfTheLatest() {
        HotGround x = new HotGround();
        x.share(0, 600);
        x.share(5, 400);
        for (int n = 1; n <= 12; n++) {
            x.put(100 * n);
        }
        for (int left = 11; left >= 0; left--) {
            Check.due("left", x.cut(), left);
            Check.due("gone at once", x.back(left), left < 5 ? 0 : 40 * (left - 4));
            Check.due("gone five years later", x.back(left + 5), 0);
            if (left > 0) {
                Check.due("the one before stays", x.back(left + 4), 40 * left);
            }
        }
        Check.due("the shares stay", x.share(5, 400), 400);
    }
}
