import java.util.List;

/** Term 2 of the document and promises 6 to 29: for each sentence that names an edge, a test of its own. */
final class ValleyEdgeTest {
    private static final Check CHECK = new Check();

    public static void main(String[] args) {
        heightsAreZeroAtFirst();
        heightsLessThanZero();
        branchesDivideInTheMiddle();
        nothingWaitsAtFirst();
        levelOfZeroWaits();
        rainOfZeroDoesNotWait();
        rainThatBecomesZeroDoesNotWait();
        levelWithRainThatBecomesZeroWaits();
        levelComesInsteadOfAll();
        levelComesToASingleTerrace();
        rainComesUponALevel();
        rainComesToASingleTerrace();
        openingWithNothing();
        openingWithALevel();
        openingWithRain();
        openingWithBoth();
        openingWithALevelAndNoRain();
        rainIsPushedUponWhatWaits();
        allTerracesAreReachedAtOnce();
        oneTerraceIsReachedFarDown();
        allButOne();
        halves();
        tellingAnew();
        notToldAnew();
        lookingAtTheEnds();
        lookingOverSeveral();
        firstAtLeastSoHigh();
        firstGoesLeftAtTheVeryHeight();
        noneSoHighOpensNothing();
        firstIsTheLastOne();
        openAllByNumbers();
        openAllOfNothing();
        rainReaches();
        bringToTellsMoreAndLess();
        waitingOverCountsBothEnds();
        nothingIsOpened();
        CHECK.end();
    }

    private static TerraceRain valley(int n) {
        return Check.taught("terraces " + n + ";");
    }

    private static void waits(String what, TerraceRain x, int branch, int rain, Integer level) {
        CHECK.same(what + ": rainWaitingAt(" + branch + ")", x.rainWaitingAt(branch), rain);
        CHECK.same(what + ": hasLevelWaiting(" + branch + ")", x.hasLevelWaiting(branch), level != null);
        if (level != null) {
            CHECK.same(what + ": levelWaitingAt(" + branch + ")", x.levelWaitingAt(branch), level);
        } else {
            CHECK.refuses(what + ": levelWaitingAt(" + branch + ")", x, IllegalStateException.class,
                    () -> x.levelWaitingAt(branch));
        }
    }

    private static void tells(String what, TerraceRain x, int branch, long water, int highest, int lowest) {
        CHECK.same(what + ": waterToldBy(" + branch + ")", x.waterToldBy(branch), water);
        CHECK.same(what + ": highestToldBy(" + branch + ")", x.highestToldBy(branch), highest);
        CHECK.same(what + ": lowestToldBy(" + branch + ")", x.lowestToldBy(branch), lowest);
    }

    private static void heightsAreZeroAtFirst() {
        for (int n = 2; n <= 32; n++) {
            TerraceRain x = valley(n);
            CHECK.same("20: heights of " + n, Check.heights(x), Check.repeat("0 ", n).trim());
            tells("14 to 16: of " + n, x, 1, 0, 0, 0);
            CHECK.same("35: meanHeight() of " + n, x.meanHeight(), 0.0);
        }
    }

    private static void heightsLessThanZero() {
        TerraceRain x = valley(3);
        x.rain(0, 0, -999);
        x.rain(0, 0, -999);
        x.bringTo(1, 1, -1);
        x.rain(2, 2, -1);
        x.rain(2, 2, 1);
        CHECK.same("20: heights", Check.heights(x), "-1998 -1 0");
        tells("14 to 16: less than 0", x, 1, -1999, 0, -1998);
        CHECK.same("25: lookForLowest", x.lookForLowest(0, 2), -1998);
        CHECK.same("24: lookForHighest", x.lookForHighest(0, 1), -1);
    }

    /** Odd numbers leave one more on the left; a branch over a single terrace has none under it. */
    private static void branchesDivideInTheMiddle() {
        int[][] due = {{2, 0, 0, 1, 1}, {3, 0, 1, 2, 2}, {4, 0, 1, 2, 3}, {5, 0, 2, 3, 4}, {16, 0, 7, 8, 15},
            {17, 0, 8, 9, 16}, {31, 0, 15, 16, 30}, {32, 0, 15, 16, 31}};
        for (int[] d : due) {
            TerraceRain x = valley(d[0]);
            CHECK.same("7: branches() of " + d[0], x.branches(), 2 * d[0] - 1);
            CHECK.same("12: firstOf(1) of " + d[0], x.firstOf(1), 0);
            CHECK.same("13: lastOf(1) of " + d[0], x.lastOf(1), d[0] - 1);
            CHECK.same("12: firstOf(2) of " + d[0], x.firstOf(2), d[1]);
            CHECK.same("13: lastOf(2) of " + d[0], x.lastOf(2), d[2]);
            CHECK.same("12: firstOf(3) of " + d[0], x.firstOf(3), d[3]);
            CHECK.same("13: lastOf(3) of " + d[0], x.lastOf(3), d[4]);
        }
        TerraceRain x = valley(32);
        CHECK.same("12: firstOf(63) of 32", x.firstOf(63), 31);
        CHECK.same("13: lastOf(32) of 32", x.lastOf(32), 0);
        TerraceRain y = valley(17);
        CHECK.same("13: lastOf(33) of 17", y.lastOf(33), 1);
        CHECK.refuses("13: lastOf(34) of 17", y, IndexOutOfBoundsException.class, () -> y.lastOf(34));
        CHECK.same("13: lastOf(31) of 17", y.lastOf(31), 16);
    }

    private static void nothingWaitsAtFirst() {
        TerraceRain x = valley(5);
        CHECK.same("11: waitingBranches()", x.waitingBranches(), 0);
        for (int b : new int[] {1, 2, 3, 4, 5, 6, 7, 8, 9}) {
            waits("at first", x, b, 0, null);
        }
        CHECK.same("27: openAll()", x.openAll(), 0);
    }

    private static void levelOfZeroWaits() {
        TerraceRain x = valley(4);
        x.bringTo(0, 3, 0);
        CHECK.same("11: a level of 0", x.waitingBranches(), 1);
        waits("a level of 0", x, 1, 0, 0);
        CHECK.same("21: a level of 0", x.waitingOver(2), 1);
        CHECK.same("22: a level of 0", x.pushesToLook(0, 0), 2);
        x.lookForWater(0, 0);
        CHECK.same("10: it was pushed twice", x.pushes(), 2);
        waits("pushed down", x, 3, 0, 0);
        waits("pushed through", x, 2, 0, null);
    }

    private static void rainOfZeroDoesNotWait() {
        TerraceRain x = valley(4);
        CHECK.same("28: a rain of 0 reaches", x.rain(0, 3, 0), 1);
        CHECK.same("11: a rain of 0", x.waitingBranches(), 0);
        CHECK.same("22: a rain of 0", x.pushesToLook(0, 0), 0);
        x.rain(0, 3, 1);
        CHECK.same("11: a rain of 1", x.waitingBranches(), 1);
        x.rain(0, 3, -2);
        CHECK.same("11: a rain of -1", x.waitingBranches(), 1);
        CHECK.same("22: a rain of -1", x.pushesToLook(0, 0), 2);
    }

    private static void rainThatBecomesZeroDoesNotWait() {
        TerraceRain x = valley(4);
        x.rain(0, 3, 999);
        x.rain(0, 3, -999);
        CHECK.same("11: 999 and -999", x.waitingBranches(), 0);
        CHECK.same("27: nothing to open", x.openAll(), 0);
        x.rain(0, 1, -3);
        x.rain(0, 3, 3);
        CHECK.same("11: -3 at 2, 3 at 1", x.waitingBranches(), 2);
        CHECK.same("27: they meet at 2", x.openAll(), 2);
        CHECK.same("20: they have met", Check.heights(x), "0 0 3 3");
    }

    private static void levelWithRainThatBecomesZeroWaits() {
        TerraceRain x = valley(2);
        x.bringTo(0, 1, 5);
        x.rain(0, 1, 4);
        x.rain(0, 1, -4);
        waits("level 5, rain 4 and -4", x, 1, 0, 5);
        CHECK.same("11: the level waits still", x.waitingBranches(), 1);
        CHECK.same("22: a push", x.pushesToLook(1, 1), 1);
    }

    private static void levelComesInsteadOfAll() {
        TerraceRain x = valley(8);
        x.rain(0, 7, 7);
        x.bringTo(0, 7, 3);
        waits("instead of rain", x, 1, 0, 3);
        x.rain(0, 7, 7);
        x.bringTo(0, 7, -3);
        waits("instead of a level and rain", x, 1, 0, -3);
        tells("all have this height", x, 1, -24, -3, -3);
        x.bringTo(0, 7, -3);
        waits("instead of itself", x, 1, 0, -3);
        // pushed down, it comes likewise
        TerraceRain y = valley(8);
        y.rain(0, 3, 7);
        y.bringTo(4, 7, 9);
        y.rain(4, 7, 1);
        y.bringTo(0, 7, 2);
        y.openAll();
        CHECK.same("20: pushed instead of all", Check.heights(y), "2 2 2 2 2 2 2 2");
        CHECK.same("10: seven pushes", y.pushes(), 7);
    }

    private static void levelComesToASingleTerrace() {
        TerraceRain x = valley(3);
        CHECK.same("29: to a single one", x.bringTo(2, 2, 999), 999);
        waits("at a single one", x, 3, 0, null);
        tells("a single one", x, 3, 999, 999, 999);
        CHECK.same("11: no level waits", x.waitingBranches(), 0);
        x.bringTo(0, 2, -999);
        x.openAll();
        waits("pushed to a single one", x, 3, 0, null);
        tells("pushed to a single one", x, 3, -999, -999, -999);
        CHECK.same("18: hasLevelWaiting(4)", x.hasLevelWaiting(4), false);
    }

    private static void rainComesUponALevel() {
        TerraceRain x = valley(6);
        x.bringTo(0, 5, 10);
        x.rain(0, 5, -4);
        waits("upon a level", x, 1, -4, 10);
        tells("upon a level", x, 1, 36, 6, 6);
        x.rain(0, 5, -7);
        waits("so much more", x, 1, -11, 10);
        CHECK.same("20: upon a level", x.heightOf(3), -1);
    }

    private static void rainComesToASingleTerrace() {
        TerraceRain x = valley(2);
        x.rain(0, 0, 999);
        x.rain(0, 0, 999);
        waits("at a single one", x, 2, 0, null);
        tells("a single one", x, 2, 1998, 1998, 1998);
        CHECK.same("11: no rain waits", x.waitingBranches(), 0);
        x.rain(0, 1, 1);
        x.openAll();
        waits("pushed to a single one", x, 3, 0, null);
        tells("pushed to a single one", x, 3, 1, 1, 1);
    }

    private static void openingWithNothing() {
        TerraceRain x = valley(32);
        CHECK.same("26: lookForFirst(0)", x.lookForFirst(0), 0);
        x.lookForWater(31, 31);
        x.rain(7, 7, 0);
        x.bringTo(9, 9, 0);
        CHECK.same("10: nothing was pushed", x.pushes(), 0);
        CHECK.same("11: nothing waits", x.waitingBranches(), 0);
    }

    private static void openingWithALevel() {
        TerraceRain x = valley(4);
        x.bringTo(0, 3, -2);
        CHECK.same("23: lookForWater(0, 1)", x.lookForWater(0, 1), -4);
        CHECK.same("10: one push", x.pushes(), 1);
        waits("opened", x, 1, 0, null);
        waits("on the left", x, 2, 0, -2);
        waits("on the right", x, 3, 0, -2);
        CHECK.same("22: opened it waits no more", x.pushesToLook(0, 1), 0);
    }

    private static void openingWithRain() {
        TerraceRain x = valley(4);
        x.rain(0, 3, -2);
        CHECK.same("23: lookForWater(2, 3)", x.lookForWater(2, 3), -4);
        CHECK.same("10: one push", x.pushes(), 1);
        waits("opened", x, 1, 0, null);
        waits("on the left", x, 2, -2, null);
        waits("on the right", x, 3, -2, null);
    }

    /** The level first, then the rain: one push. */
    private static void openingWithBoth() {
        TerraceRain x = valley(4);
        x.rain(0, 1, 50);
        x.bringTo(0, 3, 8);
        x.rain(0, 3, 3);
        x.lookForHighest(0, 1);
        CHECK.same("10: one push", x.pushes(), 1);
        waits("opened", x, 1, 0, null);
        waits("on the left", x, 2, 3, 8);
        waits("on the right", x, 3, 3, 8);
        tells("on the left", x, 2, 22, 11, 11);
        tells("over both", x, 1, 44, 11, 11);
    }

    private static void openingWithALevelAndNoRain() {
        TerraceRain x = valley(4);
        x.rain(0, 1, 5);
        x.rain(2, 3, -5);
        x.bringTo(0, 3, 1);
        x.lookForLowest(2, 3);
        waits("on the left", x, 2, 0, 1);
        waits("on the right", x, 3, 0, 1);
    }

    private static void rainIsPushedUponWhatWaits() {
        TerraceRain x = valley(4);
        x.bringTo(0, 1, 6);
        x.rain(0, 1, 2);
        x.rain(2, 3, 9);
        x.rain(0, 3, -9);
        x.lookForWater(0, 1);
        waits("upon a level and rain", x, 2, -7, 6);
        waits("upon rain", x, 3, 0, null);
        tells("upon a level and rain", x, 2, -2, -1, -1);
        tells("upon rain", x, 3, 0, 0, 0);
    }

    private static void allTerracesAreReachedAtOnce() {
        for (int n : new int[] {2, 3, 16, 31, 32}) {
            TerraceRain x = valley(n);
            CHECK.same("28: rain on all of " + n, x.rain(0, n - 1, 4), 1);
            CHECK.same("29: all of " + n, x.bringTo(0, n - 1, 5), n);
            CHECK.same("23: water of all of " + n, x.lookForWater(0, n - 1), 5 * n);
            CHECK.same("22: pushesToLook at all of " + n, x.pushesToLook(0, n - 1), 0);
            CHECK.same("10: nothing is opened of " + n, x.pushes(), 0);
        }
    }

    private static void oneTerraceIsReachedFarDown() {
        int[][] due = {{2, 1, 1}, {3, 2, 1}, {16, 4, 4}, {17, 5, 4}, {31, 5, 4}, {32, 5, 5}};
        for (int[] d : due) {
            TerraceRain x = valley(d[0]);
            x.rain(0, d[0] - 1, 4);
            CHECK.same("22: the first of " + d[0], x.pushesToLook(0, 0), d[1]);
            CHECK.same("22: the last of " + d[0], x.pushesToLook(d[0] - 1, d[0] - 1), d[2]);
            CHECK.same("28: rain on the last of " + d[0], x.rain(d[0] - 1, d[0] - 1, 1), 1);
            CHECK.same("10: the last of " + d[0], x.pushes(), d[2]);
        }
    }

    private static void allButOne() {
        TerraceRain x = valley(32);
        x.bringTo(0, 31, 1);
        CHECK.same("28: all but the first", x.rain(1, 31, 1), 5);
        CHECK.same("10: all but the first", x.pushes(), 5);
        CHECK.same("28: all but the last", x.rain(0, 30, 1), 5);
        CHECK.same("28: all but both", x.rain(1, 30, 1), 8);
        CHECK.same("20: all but one", Check.heights(x), "2 " + Check.repeat("4 ", 30) + "2");
        TerraceRain y = valley(2);
        y.bringTo(0, 1, 1);
        CHECK.same("28: one of two", y.rain(1, 1, 1), 1);
        CHECK.same("20: one of two", Check.heights(y), "1 2");
    }

    /** The last terrace of the left half and the first one of the right half. */
    private static void halves() {
        TerraceRain x = valley(5);
        x.rain(0, 4, 1);
        CHECK.same("28: the left half", x.rain(0, 2, 10), 1);
        CHECK.same("10: only 1 is opened", x.pushes(), 1);
        CHECK.same("28: the right half", x.rain(3, 4, 20), 1);
        CHECK.same("10: and nothing more", x.pushes(), 1);
        CHECK.same("28: one of each", x.rain(2, 3, 100), 2);
        CHECK.same("10: 2 and 3 are opened", x.pushes(), 3);
        CHECK.same("20: heights", Check.heights(x), "11 11 111 121 21");
        waits("not opened", x, 4, 11, null);
    }

    private static void tellingAnew() {
        TerraceRain x = valley(4);
        x.rain(1, 1, 5);
        x.rain(2, 2, -3);
        tells("over all", x, 1, 2, 5, -3);
        tells("left", x, 2, 5, 5, 0);
        tells("right", x, 3, -3, 0, -3);
        x.bringTo(1, 2, 1);
        tells("over all", x, 1, 2, 1, 0);
        tells("left", x, 2, 1, 1, 0);
        tells("right", x, 3, 1, 1, 0);
        x.rain(3, 3, 9);
        x.rain(0, 0, -9);
        tells("over all", x, 1, 2, 9, -9);
    }

    /** Rightly but for what waits at branches over it. */
    private static void notToldAnew() {
        TerraceRain x = valley(4);
        x.rain(0, 3, 5);
        tells("over all", x, 1, 20, 5, 5);
        tells("not yet", x, 2, 0, 0, 0);
        tells("not yet", x, 7, 0, 0, 0);
        x.lookForWater(0, 1);
        tells("pushed", x, 2, 10, 5, 5);
        tells("not yet", x, 4, 0, 0, 0);
        tells("not yet", x, 7, 0, 0, 0);
        CHECK.same("20: but told rightly by itself", x.heightOf(3), 5);
    }

    private static void lookingAtTheEnds() {
        TerraceRain x = valley(7);
        x.rain(0, 0, 3);
        x.rain(6, 6, -8);
        CHECK.same("23: the first one", x.lookForWater(0, 0), 3);
        CHECK.same("23: the last one", x.lookForWater(6, 6), -8);
        CHECK.same("24: all", x.lookForHighest(0, 6), 3);
        CHECK.same("25: all", x.lookForLowest(0, 6), -8);
        CHECK.same("24: without the first", x.lookForHighest(1, 6), 0);
        CHECK.same("25: without the last", x.lookForLowest(0, 5), 0);
        CHECK.same("24: the last one", x.lookForHighest(6, 6), -8);
        CHECK.same("25: the first one", x.lookForLowest(0, 0), 3);
        CHECK.same("24: less than 0 without another", x.lookForHighest(6, 6), -8);
    }

    /** Of 1 to 6 of eight, four branches are reached; wherever the greatest and the least height stand. */
    private static void lookingOverSeveral() {
        for (int high = 1; high <= 6; high++) {
            for (int low = 1; low <= 6; low++) {
                if (high != low) {
                    TerraceRain x = valley(8);
                    x.bringTo(0, 7, -5);
                    x.rain(high, high, 3);
                    x.rain(low, low, -4);
                    x.bringTo(0, 0, 99);
                    x.bringTo(7, 7, -99);
                    String of = " with " + high + " high and " + low + " low";
                    CHECK.same("23: water" + of, x.lookForWater(1, 6), -31);
                    CHECK.same("24: highest" + of, x.lookForHighest(1, 6), -2);
                    CHECK.same("25: lowest" + of, x.lookForLowest(1, 6), -9);
                    CHECK.same("24: lowest of one" + of, x.lookForLowest(high, high), -2);
                    CHECK.same("25: highest of one" + of, x.lookForHighest(low, low), -9);
                }
            }
        }
    }

    private static void firstAtLeastSoHigh() {
        TerraceRain x = valley(4);
        x.rain(1, 1, 4);
        x.rain(3, 3, 6);
        x.rain(0, 3, -10);
        // heights are -10 -6 -10 -4
        CHECK.same("26: -3", x.lookForFirst(-3), -1);
        CHECK.same("26: -4", x.lookForFirst(-4), 3);
        CHECK.same("26: -5", x.lookForFirst(-5), 3);
        CHECK.same("26: -6", x.lookForFirst(-6), 1);
        CHECK.same("26: -9", x.lookForFirst(-9), 1);
        CHECK.same("26: -10", x.lookForFirst(-10), 0);
        CHECK.same("26: -11", x.lookForFirst(-11), 0);
        CHECK.same("26: the least height", x.lookForFirst(Integer.MIN_VALUE), 0);
        CHECK.same("26: the greatest height", x.lookForFirst(Integer.MAX_VALUE), -1);
    }

    private static void firstGoesLeftAtTheVeryHeight() {
        for (int n : new int[] {2, 3, 16, 32}) {
            TerraceRain x = valley(n);
            x.bringTo(0, n - 1, 7);
            CHECK.same("26: all of " + n + " at 7", x.lookForFirst(7), 0);
            CHECK.same("26: all of " + n + " at 8", x.lookForFirst(8), -1);
            x.rain(0, n - 2, -1);
            CHECK.same("26: only the last of " + n, x.lookForFirst(7), n - 1);
            CHECK.same("26: the first of " + n + " at 6", x.lookForFirst(6), 0);
        }
    }

    private static void noneSoHighOpensNothing() {
        TerraceRain x = valley(8);
        x.rain(0, 7, 2);
        long before = x.digest();
        CHECK.same("26: 3", x.lookForFirst(3), -1);
        CHECK.same("26: nothing is opened", x.digest(), before);
        CHECK.same("26: 2", x.lookForFirst(2), 0);
        CHECK.same("26: three are opened", x.pushes(), 3);
        waits("beside the way", x, 3, 2, null);
        waits("beside the way", x, 5, 2, null);
        waits("on the way", x, 4, 0, null);
    }

    private static void firstIsTheLastOne() {
        TerraceRain x = valley(32);
        x.rain(31, 31, 1);
        x.rain(0, 31, 4);
        CHECK.same("26: the last one of 32", x.lookForFirst(5), 31);
        CHECK.same("26: five are opened", x.pushes(), 5);
        for (int b : new int[] {2, 6, 14, 30}) {
            waits("beside the way", x, b, 4, null);
        }
    }

    /** What comes down from a smaller number is pushed on by the greater ones. */
    private static void openAllByNumbers() {
        for (int n : new int[] {2, 3, 16, 31, 32}) {
            TerraceRain x = valley(n);
            x.rain(0, n - 1, 1);
            CHECK.same("27: openAll() of " + n, x.openAll(), n - 1);
            CHECK.same("27: nothing waits of " + n, x.waitingBranches(), 0);
            CHECK.same("10: pushes() of " + n, x.pushes(), n - 1);
            for (int b = 1; b < 64; b++) {
                if (new Model(n, List.of()).root.find(b) != null) {
                    CHECK.same("15: highestToldBy(" + b + ") of " + n, x.highestToldBy(b), 1);
                }
            }
            CHECK.same("27: again of " + n, x.openAll(), 0);
        }
    }

    private static void openAllOfNothing() {
        TerraceRain x = new TerraceRain();
        long before = x.digest();
        CHECK.same("27: openAll() of nothing", x.openAll(), 0);
        CHECK.same("27: nothing is changed", x.digest(), before);
        x.rain(5, 5, 9);
        CHECK.same("27: a single terrace has nothing to open", x.openAll(), 0);
        x.bringTo(14, 15, 9);
        CHECK.same("27: the last branch over two", x.openAll(), 1);
    }

    private static void rainReaches() {
        TerraceRain x = valley(32);
        CHECK.same("28: the first one", x.rain(0, 0, 1), 1);
        CHECK.same("28: the last one", x.rain(31, 31, 1), 1);
        CHECK.same("28: the left half", x.rain(0, 15, 1), 1);
        CHECK.same("28: half and one more", x.rain(0, 16, 1), 2);
        CHECK.same("28: the middle two", x.rain(15, 16, 1), 2);
        CHECK.same("28: all", x.rain(0, 31, -999), 1);
        CHECK.same("28: most of all", x.rain(1, 30, 999), 8);
        CHECK.same("20: heights", x.heightOf(0) + " " + x.heightOf(1) + " " + x.heightOf(31), "-996 2 -998");
    }

    private static void bringToTellsMoreAndLess() {
        TerraceRain x = valley(4);
        CHECK.same("29: 0 to 0", x.bringTo(0, 3, 0), 0);
        CHECK.same("29: to 999", x.bringTo(0, 3, 999), 3996);
        CHECK.same("29: to -999", x.bringTo(0, 3, -999), -7992);
        CHECK.same("29: one to 0", x.bringTo(0, 0, 0), 999);
        x.rain(0, 3, 999);
        CHECK.same("29: under rain that waits", x.bringTo(1, 2, 1), 2);
        CHECK.same("14: waterToldBy(1)", x.waterToldBy(1), 999 + 1 + 1);
    }

    private static void waitingOverCountsBothEnds() {
        TerraceRain x = valley(8);
        x.rain(0, 1, 1);
        x.rain(6, 7, 1);
        x.rain(0, 3, 1);
        x.rain(4, 7, 1);
        x.rain(0, 7, 1);
        int[] due = {3, 3, 2, 2, 2, 2, 3, 3};
        for (int t = 0; t < 8; t++) {
            CHECK.same("21: waitingOver(" + t + ")", x.waitingOver(t), due[t]);
        }
        TerraceRain y = valley(2);
        y.rain(0, 0, 5);
        CHECK.same("21: itself, a single one", y.waitingOver(0), 0);
        y.bringTo(0, 1, 0);
        CHECK.same("21: the branch over it", y.waitingOver(0), 1);
        CHECK.same("21: over the other one", y.waitingOver(1), 1);
    }

    /** The branches 1, 5, 6 and 8 wait, behind the pushes of 1, 2, 4, 3 and 7. */
    private static TerraceRain waiting() {
        TerraceRain x = Check.taught("terraces 9; rain height(8) from 0 to 4; level day from 3 to 8 when waiting > 2;");
        x.bringTo(0, 8, 3);
        x.rain(2, 7, 2);
        x.rain(0, 8, -1);
        return x;
    }

    private static void nothingIsOpened() {
        Check.Start start = ValleyEdgeTest::waiting;
        CHECK.answersAndGoesOn("6: terraces()", start, 9, x -> x.terraces());
        CHECK.answersAndGoesOn("7: branches()", start, 17, x -> x.branches());
        CHECK.answersAndGoesOn("8: orders()", start, 2, x -> x.orders());
        CHECK.answersAndGoesOn("9: days()", start, 0, x -> x.days());
        CHECK.answersAndGoesOn("10: pushes()", start, 5, x -> x.pushes());
        CHECK.answersAndGoesOn("11: waitingBranches()", start, 4, x -> x.waitingBranches());
        CHECK.answersAndGoesOn("12: firstOf(3)", start, 5, x -> x.firstOf(3));
        CHECK.answersAndGoesOn("13: lastOf(3)", start, 8, x -> x.lastOf(3));
        CHECK.answersAndGoesOn("14: waterToldBy(1)", start, 30, x -> x.waterToldBy(1));
        CHECK.answersAndGoesOn("15: highestToldBy(1)", start, 4, x -> x.highestToldBy(1));
        CHECK.answersAndGoesOn("16: lowestToldBy(1)", start, 2, x -> x.lowestToldBy(1));
        CHECK.answersAndGoesOn("17: rainWaitingAt(1)", start, -1, x -> x.rainWaitingAt(1));
        CHECK.answersAndGoesOn("18: hasLevelWaiting(1)", start, false, x -> x.hasLevelWaiting(1));
        CHECK.answersAndGoesOn("18: hasLevelWaiting(8)", start, true, x -> x.hasLevelWaiting(8));
        CHECK.answersAndGoesOn("19: levelWaitingAt(8)", start, 3, x -> x.levelWaitingAt(8));
        CHECK.answersAndGoesOn("20: heights", start, "2 2 4 4 4 4 4 4 2", x -> Check.heights(x));
        CHECK.answersAndGoesOn("21: waitingOver(0)", start, 2, x -> x.waitingOver(0));
        CHECK.answersAndGoesOn("22: pushesToLook(0, 0)", start, 4, x -> x.pushesToLook(0, 0));
        CHECK.answersAndGoesOn("31: waterAfter(30)", start, then(30).waterToldBy(1), x -> x.waterAfter(30));
        CHECK.answersAndGoesOn("32: waitingAfter(30)", start, then(30).waitingBranches(), x -> x.waitingAfter(30));
        CHECK.answersAndGoesOn("33: daysUntil(8, 999999)", start, -1, x -> x.daysUntil(8, 999999));
        CHECK.answersAndGoesOn("34: bestShower(2, 999)", start, 0, x -> x.bestShower(2, 999));
        CHECK.answersAndGoesOn("35: meanHeight()", start, 30.0 / 9.0, x -> x.meanHeight());
        CHECK.answersAndGoesOn("36: digest()", start, waiting().digest(), x -> x.digest());
    }

    private static TerraceRain then(int days) {
        TerraceRain x = waiting();
        x.passDays(days);
        return x;
    }
}
