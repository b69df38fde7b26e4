/** Promises 23 to 29: looking, and raining and bringing to a level by hand. */
final class LookTest {
    private static final Check CHECK = new Check();

    public static void main(String[] args) {
        looking();
        noSuchTerraces();
        lookForFirst();
        lookForFirstOpens();
        openAll();
        rain();
        bringTo();
        CHECK.end();
    }

    private static TerraceRain sloping() {
        TerraceRain x = Check.taught("terraces 6;");
        x.rain(0, 5, 10);
        x.rain(0, 2, -30);
        x.rain(2, 4, 7);
        x.rain(0, 5, 1);
        return x;
    }

    /** Heights are -19 -19 -12 18 18 11. */
    private static void looking() {
        TerraceRain x = sloping();
        int before = x.pushes();
        CHECK.same("23: lookForWater(0, 5)", x.lookForWater(0, 5), -3);
        CHECK.same("24: lookForHighest(0, 5)", x.lookForHighest(0, 5), 18);
        CHECK.same("25: lookForLowest(0, 5)", x.lookForLowest(0, 5), -19);
        CHECK.same("23: looking at all opens nothing", x.pushes(), before);
        // 1 is opened for both; over 0 1 2 lie 2, 4 (0 and 1); over 3 4 5 lie 3, 6 (3 and 4)
        CHECK.same("23: lookForWater(3, 5)", x.lookForWater(3, 5), 47);
        CHECK.same("23: opens 1", x.pushes(), before + 1);
        CHECK.same("25: lookForLowest(3, 5)", x.lookForLowest(3, 5), 11);
        CHECK.same("24: lookForHighest(0, 2)", x.lookForHighest(0, 2), -12);
        CHECK.same("24: opens nothing", x.pushes(), before + 1);
        CHECK.same("25: lookForLowest(2, 3)", x.lookForLowest(2, 3), -12);
        CHECK.same("25: opens 2, 3 and 6", x.pushes(), before + 4);
        CHECK.same("24: lookForHighest(1, 1)", x.lookForHighest(1, 1), -19);
        CHECK.same("24: opens 4", x.pushes(), before + 5);
        CHECK.same("23: lookForWater(1, 4)", x.lookForWater(1, 4), 5);
        CHECK.same("24: lookForHighest(1, 4)", x.lookForHighest(1, 4), 18);
        CHECK.same("24: lookForHighest(4, 5)", x.lookForHighest(4, 5), 18);
        CHECK.same("25: lookForLowest(1, 4)", x.lookForLowest(1, 4), -19);
        CHECK.same("24: lookForHighest(5, 5)", x.lookForHighest(5, 5), 11);
        CHECK.same("25: lookForLowest(4, 5)", x.lookForLowest(4, 5), 11);
        CHECK.same("23: all is opened", x.waitingBranches(), 0);
        TerraceRain z = Check.taught("terraces 4;");
        z.rain(0, 0, 5);
        z.rain(1, 1, 1);
        z.rain(2, 2, 3);
        CHECK.same("24: the greatest of 5 1 3", z.lookForHighest(0, 2), 5);
        CHECK.same("25: the least of 5 1 3", z.lookForLowest(0, 2), 1);
        CHECK.same("24: the greatest of 1 3 0", z.lookForHighest(1, 3), 3);
        CHECK.same("25: the least of 1 3 0", z.lookForLowest(1, 3), 0);
        TerraceRain y = Check.taught("terraces 32;");
        y.bringTo(0, 31, 999);
        for (int i = 0; i < 20; i++) {
            y.rain(0, 31, 999);
        }
        CHECK.same("23: much water", y.lookForWater(1, 31), 31L * 999 * 21);
    }

    private static void noSuchTerraces() {
        TerraceRain x = sloping();
        Class<IndexOutOfBoundsException> due = IndexOutOfBoundsException.class;
        int[][] wrong = {{-1, 3}, {0, 6}, {3, 2}, {6, 6}, {-2, -1}, {5, 0}, {0, Integer.MAX_VALUE},
            {Integer.MIN_VALUE, 5}, {Integer.MAX_VALUE, Integer.MIN_VALUE}};
        for (int[] w : wrong) {
            String stretch = "(" + w[0] + ", " + w[1] + ")";
            CHECK.refuses("23: lookForWater" + stretch, x, due, () -> x.lookForWater(w[0], w[1]));
            CHECK.refuses("24: lookForHighest" + stretch, x, due, () -> x.lookForHighest(w[0], w[1]));
            CHECK.refuses("25: lookForLowest" + stretch, x, due, () -> x.lookForLowest(w[0], w[1]));
            CHECK.refuses("28: rain" + stretch, x, due, () -> x.rain(w[0], w[1], 5));
            CHECK.refuses("28: rain too much" + stretch, x, due, () -> x.rain(w[0], w[1], 5000));
            CHECK.refuses("29: bringTo" + stretch, x, due, () -> x.bringTo(w[0], w[1], 5));
            CHECK.refuses("29: bringTo too much" + stretch, x, due, () -> x.bringTo(w[0], w[1], -5000));
        }
        for (int amount : new int[] {1000, -1000, Integer.MAX_VALUE, Integer.MIN_VALUE}) {
            CHECK.refuses("28: rain " + amount, x, IllegalArgumentException.class, () -> x.rain(1, 3, amount));
            CHECK.refuses("29: bringTo " + amount, x, IllegalArgumentException.class, () -> x.bringTo(1, 3, amount));
        }
    }

    private static void lookForFirst() {
        TerraceRain x = sloping();
        CHECK.same("26: 19", x.lookForFirst(19), -1);
        CHECK.same("26: greatest", x.lookForFirst(Integer.MAX_VALUE), -1);
        CHECK.same("26: 18", x.lookForFirst(18), 3);
        CHECK.same("26: 11", x.lookForFirst(11), 3);
        CHECK.same("26: -12", x.lookForFirst(-12), 2);
        CHECK.same("26: -13", x.lookForFirst(-13), 2);
        CHECK.same("26: -19", x.lookForFirst(-19), 0);
        CHECK.same("26: least", x.lookForFirst(Integer.MIN_VALUE), 0);
        TerraceRain y = Check.taught("terraces 5;");
        y.rain(4, 4, 3);
        CHECK.same("26: the last one", y.lookForFirst(1), 4);
        CHECK.same("26: 0", y.lookForFirst(0), 0);
        CHECK.same("26: 4", y.lookForFirst(4), -1);
    }

    private static void lookForFirstOpens() {
        TerraceRain x = Check.taught("terraces 8;");
        x.rain(0, 7, 2);
        x.rain(4, 7, 5);
        int before = x.pushes();
        CHECK.same("26: none", x.lookForFirst(8), -1);
        CHECK.same("26: none opens nothing", x.pushes(), before);
        CHECK.same("26: first of 4 to 7", x.lookForFirst(7), 4);
        CHECK.same("26: opens 3 and 6", x.pushes(), before + 2);
        CHECK.same("26: not 2", x.rainWaitingAt(2), 2);
        CHECK.same("26: not 7", x.rainWaitingAt(7), 7);
        x.rain(0, 7, 1);
        CHECK.same("26: first of 0 to 3", x.lookForFirst(3), 0);
        CHECK.same("26: opens 1, 2 and 4", x.pushes(), before + 5);
        CHECK.same("26: pushed to 3", x.rainWaitingAt(3), 1);
        CHECK.same("26: pushed to 5", x.rainWaitingAt(5), 3);
    }

    private static void openAll() {
        TerraceRain x = Check.taught("terraces 8;");
        CHECK.same("27: nothing waits", x.openAll(), 0);
        x.rain(0, 7, 3);
        CHECK.same("27: all seven", x.openAll(), 7);
        CHECK.same("27: pushes()", x.pushes(), 7);
        CHECK.same("27: waitingBranches()", x.waitingBranches(), 0);
        CHECK.same("27: heightOf(5)", x.heightOf(5), 3);
        CHECK.same("27: highestToldBy(13)", x.highestToldBy(13), 3);
        CHECK.same("27: again", x.openAll(), 0);
        x.bringTo(2, 3, 8);
        x.rain(6, 6, 4);
        CHECK.same("27: only 5", x.openAll(), 1);
        x.rain(0, 3, 5);
        x.rain(0, 7, -5);
        // the rain of 1 comes to nothing at 2
        CHECK.same("27: 1, 3, 6 and 7", x.openAll(), 4);
        int[] due = {3, 3, 8, 8, -2, -2, 2, -2};
        for (int i = 0; i < 8; i++) {
            CHECK.same("27: heightOf(" + i + ")", x.heightOf(i), due[i]);
        }
    }

    private static void rain() {
        TerraceRain x = Check.taught("terraces 11;");
        CHECK.same("28: all at 1", x.rain(0, 10, 5), 1);
        CHECK.same("28: pushes", x.pushes(), 0);
        CHECK.same("28: one at a single one", x.rain(4, 4, 7), 1);
        CHECK.same("28: opens 1, 2, 5 and 10", x.pushes(), 4);
        CHECK.same("28: 1 to 9", x.rain(1, 9, 0), 5);
        CHECK.same("28: a rain of 0 opens as well", x.pushes(), 8);
        CHECK.same("28: 0 to 9", x.rain(0, 9, -3), 3);
        CHECK.same("28: 3 to 8", x.rain(3, 8, 999), 2);
        CHECK.same("28: 3 to 8 dry", x.rain(3, 8, -999), 2);
        int[] due = {2, 2, 2, 2, 9, 2, 2, 2, 2, 2, 5};
        for (int i = 0; i < 11; i++) {
            CHECK.same("28: heightOf(" + i + ")", x.heightOf(i), due[i]);
        }
        CHECK.same("28: waterToldBy(1)", x.waterToldBy(1), 32);
        CHECK.same("28: days()", x.days(), 0);
    }

    private static void bringTo() {
        TerraceRain x = Check.taught("terraces 6;");
        CHECK.same("29: to 4", x.bringTo(0, 5, 4), 24);
        CHECK.same("29: to 4 again", x.bringTo(0, 5, 4), 0);
        CHECK.same("29: no push", x.pushes(), 0);
        CHECK.same("29: some to 999", x.bringTo(1, 3, 999), 995 * 3);
        CHECK.same("29: pushes of 1, 2, 4, 3 and 6", x.pushes(), 5);
        CHECK.same("29: more to -999", x.bringTo(1, 4, -999), -1998 * 3 - 1003);
        CHECK.same("29: all to 0", x.bringTo(0, 5, 0), 999 * 4 - 8);
        CHECK.same("29: waterToldBy(1)", x.waterToldBy(1), 0);
        CHECK.same("29: hasLevelWaiting(1)", x.hasLevelWaiting(1), true);
        CHECK.same("29: one to 1", x.bringTo(5, 5, 1), 1);
        CHECK.same("29: heightOf(5)", x.heightOf(5), 1);
        CHECK.same("29: heightOf(4)", x.heightOf(4), 0);
    }
}
