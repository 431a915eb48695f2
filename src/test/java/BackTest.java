/** Promises 16 to 19: share, put, back, cut. */
public final class BackTest {
    private BackTest() {
    }

    public static void main(String[] args) {
        sharesTogether();
        sharesOfBadNumbers();
        putUntilFull();
        everyShareComesInItsYear();
        eachIsRoundedForItself();
        theLastYears();
        cutTakesTheLatest();
        Check.end();
    }

    private static void sharesTogether() {
        HotGround x = new HotGround();
        Check.due("all at once", x.share(5, 1000), 0);
        Check.due("no more", x.share(0, 1), HotGround.BAD);
        Check.due("nothing more is fine", x.share(0, 0), 0);
        Check.due("it may be told again", x.share(5, 1000), 1000);
        Check.due("lower", x.share(5, 400), 1000);
        Check.due("just 1000", x.share(0, 600), 0);
        Check.due("one over", x.share(0, 601), HotGround.BAD);
        Check.due("it stays", x.share(0, 100), 600);
        for (int k = 1; k <= 4; k++) {
            Check.due("the others", x.share(k, 125), 0);
        }
        Check.due("full again", x.share(3, 126), HotGround.BAD);
        Check.due("it stays", x.share(3, 125), 125);
    }

    private static void sharesOfBadNumbers() {
        HotGround x = new HotGround();
        Check.due("k 6", x.share(6, 0), HotGround.BAD);
        Check.due("k -1", x.share(-1, 0), HotGround.BAD);
        Check.due("share -1", x.share(0, -1), HotGround.BAD);
        Check.due("share 1001", x.share(0, 1001), HotGround.BAD);
        x.share(1, 500);
        Check.due("below 0, though together it fits", x.share(0, -1), HotGround.BAD);
        Check.due("far over", x.share(0, Integer.MAX_VALUE), HotGround.BAD);
        Check.due("nothing has changed", x.share(0, 500), 0);
        Check.due("nothing has changed", x.share(1, 0), 500);
    }

    private static void putUntilFull() {
        HotGround x = new HotGround();
        for (int n = 1; n <= 12; n++) {
            Check.due("put " + n, x.put(n % 2 == 0 ? 0 : 1000000), n);
        }
        Check.due("one more", x.put(5), HotGround.FULL);
        Check.due("BAD before FULL", x.put(-1), HotGround.BAD);
        Check.due("BAD before FULL", x.put(1000001), HotGround.BAD);
        Check.due("twelve are told", x.count(3), 12);
    }

    private static void everyShareComesInItsYear() {
        HotGround x = new HotGround();
        int[] shares = {1, 20, 300, 400, 50, 6};
        for (int k = 0; k < 6; k++) {
            x.share(k, shares[k]);
        }
        x.put(0);
        x.put(1000000);
        Check.due("year 0", x.back(0), 0);
        for (int k = 0; k < 6; k++) {
            Check.due("year " + (k + 1), x.back(k + 1), shares[k] * 1000);
        }
        Check.due("year 7", x.back(7), 0);
        Check.due("year 16", x.back(16), 0);
        Check.due("year 17", x.back(17), HotGround.BAD);
        Check.due("year -1", x.back(-1), HotGround.BAD);
        x.share(0, 0);
        Check.due("the shares of now count", x.back(1), 0);
    }

    private static void eachIsRoundedForItself() {
        HotGround x = new HotGround();
        x.share(0, 500);
        x.share(1, 500);
        for (int n = 0; n < 3; n++) {
            x.put(3);
        }
        Check.due("1.5", x.back(0), 1);
        Check.due("1.5 and 1.5", x.back(1), 2);
        Check.due("1.5 and 1.5", x.back(2), 2);
        Check.due("1.5", x.back(3), 1);
        Check.due("no more", x.back(4), 0);
    }

    private static void theLastYears() {
        HotGround x = new HotGround();
        for (int k = 0; k < 6; k++) {
            x.share(k, k < 4 ? 167 : 166);
        }
        for (int n = 0; n < 12; n++) {
            x.put(1000000);
        }
        Check.due("year 0", x.back(0), 167000);
        Check.due("year 5", x.back(5), 1000000);
        Check.due("year 11", x.back(11), 1000000);
        Check.due("year 12", x.back(12), 833000);
        Check.due("year 15", x.back(15), 332000);
        Check.due("year 16", x.back(16), 166000);
    }

    private static void cutTakesTheLatest() {
        HotGround x = new HotGround();
        Check.due("nothing to cut", x.cut(), HotGround.STATE);
        x.share(0, 1000);
        x.put(10);
        x.put(20);
        Check.due("cut", x.cut(), 1);
        Check.due("the latest is gone", x.back(1), 0);
        Check.due("the first stays", x.back(0), 10);
        Check.due("put anew", x.put(30), 2);
        Check.due("in its place", x.back(1), 30);
        Check.due("cut", x.cut(), 1);
        Check.due("cut", x.cut(), 0);
        Check.due("all gone", x.back(0), 0);
        Check.due("nothing to cut", x.cut(), HotGround.STATE);
        Check.due("none is told", x.count(3), 0);
        Check.due("put after all", x.put(7), 1);
        Check.due("it comes back", x.back(0), 7);
    }
}
