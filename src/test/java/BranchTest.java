/** Promises 6 to 22: what the valley, its branches and its terraces tell without opening. */
final class BranchTest {
    private static final Check CHECK = new Check();

    public static void main(String[] args) {
        valley();
        shapes();
        elevenTerraces();
        noSuchBranch();
        toldByBranches();
        levelsReplaceWhatWaits();
        rainThatComesToNothing();
        singleTerraces();
        heights();
        waitingOver();
        pushesToLook();
        CHECK.end();
    }

    private static void valley() {
        TerraceRain x = Check.taught("terraces 5; rain 1 from 0 to 4; look from 0 to 0; look from 4 to 4;");
        CHECK.same("6: terraces()", x.terraces(), 5);
        CHECK.same("7: branches()", x.branches(), 9);
        CHECK.same("8: orders()", x.orders(), 3);
        CHECK.same("9: days()", x.days(), 0);
        CHECK.same("10: pushes()", x.pushes(), 0);
        CHECK.same("11: waitingBranches()", x.waitingBranches(), 0);
        x.rain(0, 4, 2);
        CHECK.same("11: waitingBranches() in the rain", x.waitingBranches(), 1);
        x.passDays(2);
        CHECK.same("9: days() 2 later", x.days(), 2);
        CHECK.same("10: pushes() 2 days later", x.pushes(), 8);
        CHECK.same("11: waitingBranches() 2 days later", x.waitingBranches(), 0);
        x.rain(0, 1, 2);
        x.rain(0, 3, 2);
        CHECK.same("11: waitingBranches() of two", x.waitingBranches(), 2);
        x.waterAfter(4);
        CHECK.same("9: days() behind looking ahead", x.days(), 2);
        CHECK.same("6: terraces() stay", x.terraces(), 5);
        CHECK.same("7: branches() stay", x.branches(), 9);
        CHECK.same("8: orders() stay", x.orders(), 3);
    }

    /** Every number of terraces is divided by the middle, down to single ones. */
    private static void shapes() {
        for (int n = 2; n <= 32; n++) {
            TerraceRain x = Check.taught("terraces " + n + ";");
            CHECK.same("6: terraces() of " + n, x.terraces(), n);
            CHECK.same("7: branches() of " + n, x.branches(), 2 * n - 1);
            CHECK.same("12, 13: branches found of " + n, shape(x, 1, 0, n - 1), 2 * n - 1);
        }
    }

    private static int shape(TerraceRain x, int branch, int first, int last) {
        CHECK.same("12: firstOf(" + branch + ")", x.firstOf(branch), first);
        CHECK.same("13: lastOf(" + branch + ")", x.lastOf(branch), last);
        if (first == last) {
            CHECK.refuses("12: firstOf(" + 2 * branch + ")", x, IndexOutOfBoundsException.class,
                    () -> x.firstOf(2 * branch));
            CHECK.refuses("13: lastOf(" + 2 * branch + " + 1)", x, IndexOutOfBoundsException.class,
                    () -> x.lastOf(2 * branch + 1));
            return 1;
        }
        int middle = (first + last) / 2;
        return 1 + shape(x, 2 * branch, first, middle) + shape(x, 2 * branch + 1, middle + 1, last);
    }

    private static void elevenTerraces() {
        TerraceRain x = Check.taught("terraces 11;");
        int[][] due = {{1, 0, 10}, {2, 0, 5}, {3, 6, 10}, {4, 0, 2}, {5, 3, 5}, {6, 6, 8}, {7, 9, 10}, {8, 0, 1},
            {9, 2, 2}, {10, 3, 4}, {11, 5, 5}, {12, 6, 7}, {13, 8, 8}, {14, 9, 9}, {15, 10, 10}, {16, 0, 0},
            {17, 1, 1}, {20, 3, 3}, {21, 4, 4}, {24, 6, 6}, {25, 7, 7}};
        for (int[] row : due) {
            CHECK.same("12: firstOf(" + row[0] + ")", x.firstOf(row[0]), row[1]);
            CHECK.same("13: lastOf(" + row[0] + ")", x.lastOf(row[0]), row[2]);
        }
    }

    private static void noSuchBranch() {
        Class<IndexOutOfBoundsException> due = IndexOutOfBoundsException.class;
        for (int b : new int[] {0, -1, 18, 19, 22, 23, 26, 31, 32, 63, 64, 65, 1000, Integer.MAX_VALUE,
            Integer.MIN_VALUE}) {
            TerraceRain x = Check.taught("terraces 11;");
            CHECK.refuses("12: firstOf(" + b + ")", x, due, () -> x.firstOf(b));
            CHECK.refuses("13: lastOf(" + b + ")", x, due, () -> x.lastOf(b));
            CHECK.refuses("14: waterToldBy(" + b + ")", x, due, () -> x.waterToldBy(b));
            CHECK.refuses("15: highestToldBy(" + b + ")", x, due, () -> x.highestToldBy(b));
            CHECK.refuses("16: lowestToldBy(" + b + ")", x, due, () -> x.lowestToldBy(b));
            CHECK.refuses("17: rainWaitingAt(" + b + ")", x, due, () -> x.rainWaitingAt(b));
            CHECK.refuses("18: hasLevelWaiting(" + b + ")", x, due, () -> x.hasLevelWaiting(b));
            CHECK.refuses("19: levelWaitingAt(" + b + ")", x, due, () -> x.levelWaitingAt(b));
        }
    }

    private static void told(TerraceRain x, int branch, long water, int highest, int lowest, int rain) {
        CHECK.same("14: waterToldBy(" + branch + ")", x.waterToldBy(branch), water);
        CHECK.same("15: highestToldBy(" + branch + ")", x.highestToldBy(branch), highest);
        CHECK.same("16: lowestToldBy(" + branch + ")", x.lowestToldBy(branch), lowest);
        CHECK.same("17: rainWaitingAt(" + branch + ")", x.rainWaitingAt(branch), rain);
    }

    private static void noLevel(TerraceRain x, int branch) {
        CHECK.same("18: hasLevelWaiting(" + branch + ")", x.hasLevelWaiting(branch), false);
        CHECK.refuses("19: levelWaitingAt(" + branch + ")", x, IllegalStateException.class,
                () -> x.levelWaitingAt(branch));
    }

    private static void level(TerraceRain x, int branch, int level) {
        CHECK.same("18: hasLevelWaiting(" + branch + ")", x.hasLevelWaiting(branch), true);
        CHECK.same("19: levelWaitingAt(" + branch + ")", x.levelWaitingAt(branch), level);
    }

    private static void toldByBranches() {
        TerraceRain x = Check.taught("terraces 5;");
        told(x, 1, 0, 0, 0, 0);
        x.rain(0, 4, 3);
        told(x, 1, 15, 3, 3, 3);
        told(x, 2, 0, 0, 0, 0);
        noLevel(x, 1);
        x.rain(1, 3, -5);
        // over 0-1-2 lies the branch 2, over 0-1 the branch 4, over 3-4 the branch 3
        told(x, 1, 0, 3, -2, 0);
        told(x, 2, -1, 3, -2, 0);
        told(x, 4, 1, 3, -2, 0);
        told(x, 8, 3, 3, 3, 0);
        told(x, 9, -2, -2, -2, 0);
        told(x, 5, -2, -2, -2, 0);
        told(x, 3, 1, 3, -2, 0);
        told(x, 6, -2, -2, -2, 0);
        told(x, 7, 3, 3, 3, 0);
        x.bringTo(0, 2, -9);
        told(x, 2, -27, -9, -9, 0);
        told(x, 1, -26, 3, -9, 0);
        told(x, 4, 1, 3, -2, 0);
        level(x, 2, -9);
        noLevel(x, 1);
        noLevel(x, 4);
        x.rain(0, 2, 4);
        told(x, 2, -15, -5, -5, 4);
        level(x, 2, -9);
        x.rain(0, 4, 1);
        told(x, 1, -9, 4, -4, 1);
        told(x, 2, -15, -5, -5, 4);
    }

    private static void levelsReplaceWhatWaits() {
        TerraceRain x = Check.taught("terraces 8;");
        x.rain(0, 7, 6);
        x.bringTo(0, 7, 2);
        told(x, 1, 16, 2, 2, 0);
        level(x, 1, 2);
        x.rain(0, 7, 5);
        told(x, 1, 56, 7, 7, 5);
        level(x, 1, 2);
        x.bringTo(0, 7, 0);
        told(x, 1, 0, 0, 0, 0);
        level(x, 1, 0);
        CHECK.same("11: a level of 0 waits", x.waitingBranches(), 1);
        x.rain(0, 3, 9);
        // the level 0 went to 2 and 3, and the rain upon it to 2
        noLevel(x, 1);
        level(x, 2, 0);
        level(x, 3, 0);
        told(x, 2, 36, 9, 9, 9);
        told(x, 3, 0, 0, 0, 0);
        x.bringTo(0, 7, 1);
        x.rain(0, 7, 1);
        x.lookForWater(4, 4);
        // pushed down, the level comes instead of the level and the rain at 2
        level(x, 2, 1);
        told(x, 2, 8, 2, 2, 1);
        noLevel(x, 3);
        level(x, 7, 1);
        told(x, 7, 4, 2, 2, 1);
        noLevel(x, 6);
        told(x, 6, 4, 2, 2, 0);
    }

    private static void rainThatComesToNothing() {
        TerraceRain x = Check.taught("terraces 4;");
        x.rain(0, 3, 5);
        x.rain(0, 3, -5);
        CHECK.same("11: 5 and -5 wait nowhere", x.waitingBranches(), 0);
        x.rain(0, 3, 0);
        CHECK.same("11: rain of 0 waits nowhere", x.waitingBranches(), 0);
        CHECK.same("22: and is no push", x.pushesToLook(0, 0), 0);
        x.rain(0, 1, 5);
        x.rain(0, 3, -5);
        CHECK.same("11: at 1 and 2", x.waitingBranches(), 2);
        CHECK.same("22: meeting at 2 it comes to nothing", x.pushesToLook(0, 0), 1);
        x.lookForHighest(0, 0);
        CHECK.same("10: one push", x.pushes(), 1);
        told(x, 2, 0, 0, 0, 0);
        told(x, 3, -10, -5, -5, -5);
    }

    private static void singleTerraces() {
        TerraceRain x = Check.taught("terraces 2;");
        x.rain(0, 0, 5);
        x.bringTo(1, 1, 8);
        told(x, 2, 5, 5, 5, 0);
        told(x, 3, 8, 8, 8, 0);
        noLevel(x, 2);
        noLevel(x, 3);
        CHECK.same("11: nothing waits at single ones", x.waitingBranches(), 0);
    }

    private static void heights() {
        TerraceRain x = Check.taught("terraces 7;");
        x.rain(0, 6, 4);
        x.rain(2, 5, 3);
        x.bringTo(1, 4, 20);
        x.rain(0, 6, -1);
        x.bringTo(6, 6, -8);
        x.rain(0, 3, 2);
        int[] due = {5, 21, 21, 21, 19, 6, -8};
        int before = x.pushes();
        for (int i = 0; i < 7; i++) {
            CHECK.same("20: heightOf(" + i + ")", x.heightOf(i), due[i]);
        }
        CHECK.same("20: nothing is opened", x.pushes(), before);
        CHECK.same("14: waterToldBy(1)", x.waterToldBy(1), 85);
        for (int i : new int[] {-1, 7, 31, Integer.MAX_VALUE, Integer.MIN_VALUE}) {
            CHECK.refuses("20: heightOf(" + i + ")", x, IndexOutOfBoundsException.class, () -> x.heightOf(i));
            CHECK.refuses("21: waitingOver(" + i + ")", x, IndexOutOfBoundsException.class, () -> x.waitingOver(i));
        }
        x.bringTo(0, 6, 11);
        x.rain(0, 6, 2);
        CHECK.same("20: heightOf under a level and rain", x.heightOf(3), 13);
    }

    private static void waitingOver() {
        TerraceRain x = Check.taught("terraces 8;");
        CHECK.same("21: at first", x.waitingOver(0), 0);
        x.rain(0, 1, 1);
        x.bringTo(0, 3, 1);
        x.rain(0, 7, 1);
        // a level waits at 2 and rain at 4 (terraces 0 and 1) and at 1
        CHECK.same("21: waitingOver(0)", x.waitingOver(0), 3);
        CHECK.same("21: waitingOver(1)", x.waitingOver(1), 3);
        CHECK.same("21: waitingOver(2)", x.waitingOver(2), 2);
        CHECK.same("21: waitingOver(3)", x.waitingOver(3), 2);
        CHECK.same("21: waitingOver(4)", x.waitingOver(4), 1);
        CHECK.same("21: waitingOver(7)", x.waitingOver(7), 1);
        CHECK.same("21: nothing is opened", x.pushes(), 0);
        x.lookForWater(0, 0);
        CHECK.same("21: waitingOver(0) opened", x.waitingOver(0), 0);
        CHECK.same("21: waitingOver(3) opened at 2", x.waitingOver(3), 1);
        CHECK.same("21: waitingOver(4) opened at 1", x.waitingOver(4), 1);
    }

    private static void pushesToLook() {
        TerraceRain x = Check.taught("terraces 8;");
        CHECK.same("22: nothing waits", x.pushesToLook(3, 5), 0);
        x.rain(0, 7, 1);
        CHECK.same("22: all are reached at 1", x.pushesToLook(0, 7), 0);
        CHECK.same("22: half", x.pushesToLook(0, 3), 1);
        CHECK.same("22: one", x.pushesToLook(6, 6), 3);
        CHECK.same("22: from 1 to 6", x.pushesToLook(1, 6), 5);
        CHECK.same("22: nothing is changed", x.pushes(), 0);
        CHECK.same("22: it waits at 1 still", x.rainWaitingAt(1), 1);
        x.lookForWater(1, 6);
        CHECK.same("22: so many", x.pushes(), 5);
        CHECK.same("22: and none again", x.pushesToLook(1, 6), 0);
        Class<IndexOutOfBoundsException> due = IndexOutOfBoundsException.class;
        CHECK.refuses("22: pushesToLook(-1, 0)", x, due, () -> x.pushesToLook(-1, 0));
        CHECK.refuses("22: pushesToLook(0, 8)", x, due, () -> x.pushesToLook(0, 8));
        CHECK.refuses("22: pushesToLook(5, 4)", x, due, () -> x.pushesToLook(5, 4));
        CHECK.refuses("22: pushesToLook(8, 8)", x, due, () -> x.pushesToLook(8, 8));
        CHECK.refuses("22: pushesToLook(-3, -2)", x, due, () -> x.pushesToLook(-3, -2));
        CHECK.same("22: pushesToLook(7, 7)", x.pushesToLook(7, 7), 0);
        CHECK.same("22: pushesToLook(5, 5)", x.pushesToLook(5, 5), 1);
    }
}
