/** Promises 31 to 36: looking ahead, the best shower, the mean and the digest. */
final class AheadTest {
    private static final Check CHECK = new Check();
    private static final String VALLEY = "terraces 6; rain day + 1 from 0 to 3; level 2 from 3 to 5 when day = 2;"
            + "look from day to day when pushes < 20; rain -1 from 0 to 5 when waiting > 2;";

    public static void main(String[] args) {
        waterAndWaitingAfter();
        readingsAhead();
        notTaught();
        nothingIsChanged();
        daysUntil();
        daysUntilTheLastDay();
        bestShower();
        bestShowerEverywhere();
        meanHeight();
        digest();
        digestOfMore();
        CHECK.end();
    }

    private static void waterAndWaitingAfter() {
        TerraceRain x = Check.taught("terraces 4; rain 2 from 0 to 3; rain 1 from 0 to 0 when day = 4;");
        CHECK.same("31: waterAfter(1)", x.waterAfter(1), 8);
        CHECK.same("31: waterAfter(4)", x.waterAfter(4), 32);
        CHECK.same("31: waterAfter(5)", x.waterAfter(5), 41);
        CHECK.same("31: waterAfter(30)", x.waterAfter(30), 241);
        CHECK.same("32: waitingAfter(1)", x.waitingAfter(1), 1);
        CHECK.same("32: waitingAfter(5)", x.waitingAfter(5), 1);
        CHECK.same("32: waitingAfter(6)", x.waitingAfter(6), 2);
        x.rain(0, 0, 100);
        CHECK.same("31: with rain by hand before", x.waterAfter(1), 108);
        for (int days : new int[] {0, -1, 31, Integer.MAX_VALUE, Integer.MIN_VALUE}) {
            CHECK.refuses("31: waterAfter(" + days + ")", x, IllegalArgumentException.class,
                    () -> x.waterAfter(days));
            CHECK.refuses("32: waitingAfter(" + days + ")", x, IllegalArgumentException.class,
                    () -> x.waitingAfter(days));
        }
        for (int days = 1; days <= 30; days++) {
            TerraceRain y = Check.taught(VALLEY);
            y.passDays(3);
            long water = y.waterAfter(days);
            int waiting = y.waitingAfter(days);
            y.passDays(days);
            CHECK.same("31: waterAfter(" + days + ")", water, y.waterToldBy(1));
            CHECK.same("32: waitingAfter(" + days + ")", waiting, y.waitingBranches());
        }
    }

    private static void readingsAhead() {
        TerraceRain x = Check.taught("terraces 3; level highest from 0 to 0; rain lowest from 1 to 1 when pushes > 2;"
                + "rain day from 2 to 2; rain waiting from 2 to 2; rain 1000 * height(1) from 2 to 2 when water < 9;");
        x.bringTo(1, 1, 5);
        x.bringTo(2, 2, -3);
        x.bringTo(0, 1, 6);
        x.rain(0, 1, 1);
        // 7 7 -3; the first order opens 2, so that there is one push; -3 + 0 + 0 is left for terrace 2
        CHECK.same("31: 7 7 -3", x.waterAfter(1), 11);
        CHECK.same("31: a day later", x.waterAfter(2), 12);
        x.rain(2, 2, -6);
        CHECK.same("31: 7 7 990", x.waterAfter(1), 1004);
        CHECK.same("33: 990 is reached", x.daysUntil(2, 990), 1);
        CHECK.same("33: 991 is reached", x.daysUntil(2, 991), 2);
    }

    private static void notTaught() {
        TerraceRain x = new TerraceRain();
        x.rain(3, 15, 2);
        CHECK.same("31: without orders", x.waterAfter(4), 26);
        CHECK.same("32: without orders", x.waitingAfter(4), 2);
        CHECK.same("33: without orders", x.daysUntil(3, 2), 0);
        CHECK.same("33: without orders never", x.daysUntil(2, 1), -1);
        CHECK.same("34: without orders", x.bestShower(3, 5), 0);
        CHECK.same("22: without orders", x.pushesToLook(4, 4), 2);
        CHECK.same("35: without orders", x.meanHeight(), 1.625);
        x.bringTo(5, 6, -1);
        CHECK.same("34: of sixteen", x.bestShower(2, 5), 5);
    }

    private static void nothingIsChanged() {
        TerraceRain x = Check.taught(VALLEY);
        x.passDays(2);
        x.rain(0, 5, 3);
        long before = x.digest();
        x.waterAfter(7);
        CHECK.same("31: digest()", x.digest(), before);
        x.waitingAfter(9);
        CHECK.same("32: digest()", x.digest(), before);
        x.daysUntil(5, 100);
        CHECK.same("33: digest()", x.digest(), before);
        x.bestShower(2, 9);
        CHECK.same("34: digest()", x.digest(), before);
        x.meanHeight();
        x.pushesToLook(1, 4);
        x.heightOf(2);
        x.waitingOver(2);
        CHECK.same("20, 21, 22, 35: digest()", x.digest(), before);
        TerraceRain y = Check.taught(VALLEY);
        y.passDays(2);
        y.rain(0, 5, 3);
        x.passDays(6);
        y.passDays(6);
        CHECK.same("31 to 34: days behind them", x.digest(), y.digest());
    }

    private static void daysUntil() {
        TerraceRain x = Check.taught("terraces 3; rain 2 from 1 to 1; level 0 from 0 to 2 when day = 7;");
        CHECK.same("33: now", x.daysUntil(1, 0), 0);
        CHECK.same("33: less than now", x.daysUntil(1, -5), 0);
        CHECK.same("33: 1", x.daysUntil(1, 1), 1);
        CHECK.same("33: 2", x.daysUntil(1, 2), 1);
        CHECK.same("33: 3", x.daysUntil(1, 3), 2);
        CHECK.same("33: 14", x.daysUntil(1, 14), 7);
        CHECK.same("33: 15", x.daysUntil(1, 15), 16);
        CHECK.same("33: never", x.daysUntil(0, 1), -1);
        CHECK.same("33: at once", x.daysUntil(0, 0), 0);
        x.passDays(2);
        CHECK.same("33: 14 two days later", x.daysUntil(1, 14), 5);
        CHECK.same("33: 4 two days later", x.daysUntil(1, 4), 0);
        for (int t : new int[] {-1, 3, 16, Integer.MAX_VALUE, Integer.MIN_VALUE}) {
            CHECK.refuses("33: daysUntil(" + t + ")", x, IndexOutOfBoundsException.class, () -> x.daysUntil(t, 0));
        }
    }

    private static void daysUntilTheLastDay() {
        TerraceRain x = Check.taught("terraces 2; rain 1 from 0 to 1; look from 1 to 1;");
        CHECK.same("33: 29", x.daysUntil(0, 29), 29);
        CHECK.same("33: 30", x.daysUntil(0, 30), 30);
        CHECK.same("33: 31", x.daysUntil(0, 31), -1);
        CHECK.same("33: greatest", x.daysUntil(1, Integer.MAX_VALUE), -1);
        CHECK.same("33: least", x.daysUntil(1, Integer.MIN_VALUE), 0);
        TerraceRain y = Check.taught("terraces 2; rain 5 from 0 to 0 when day < 3; rain -5 from 0 to 0 when day >= 3;");
        CHECK.same("33: for the first time", y.daysUntil(0, 15), 3);
        CHECK.same("33: 16", y.daysUntil(0, 16), -1);
    }

    private static void bestShower() {
        TerraceRain x = Check.taught("terraces 6;");
        CHECK.same("34: flat", x.bestShower(1, 5), 0);
        x.rain(3, 4, -5);
        // heights are 0 0 0 -5 -5 0
        CHECK.same("34: one can't mend two", x.bestShower(1, 9), 0);
        CHECK.same("34: two", x.bestShower(2, 9), 3);
        CHECK.same("34: three", x.bestShower(3, 9), 2);
        CHECK.same("34: four", x.bestShower(4, 1), 1);
        CHECK.same("34: five", x.bestShower(5, 9), 0);
        CHECK.same("34: six", x.bestShower(6, 9), 0);
        CHECK.same("34: of nothing", x.bestShower(2, 0), 0);
        x.bringTo(5, 5, -9);
        CHECK.same("34: the last one", x.bestShower(1, 999), 5);
        CHECK.same("34: the last three", x.bestShower(3, 2), 3);
        x.bringTo(0, 5, 0);
        x.rain(2, 2, -1);
        CHECK.same("34: under a level that waits", x.bestShower(1, 1), 2);
        Class<IllegalArgumentException> due = IllegalArgumentException.class;
        CHECK.refuses("34: bestShower(0, 1)", x, due, () -> x.bestShower(0, 1));
        CHECK.refuses("34: bestShower(7, 1)", x, due, () -> x.bestShower(7, 1));
        CHECK.refuses("34: bestShower(-1, 1)", x, due, () -> x.bestShower(-1, 1));
        CHECK.refuses("34: bestShower(greatest, 1)", x, due, () -> x.bestShower(Integer.MAX_VALUE, 1));
        CHECK.refuses("34: bestShower(1, -1)", x, due, () -> x.bestShower(1, -1));
        CHECK.refuses("34: bestShower(1, 1000)", x, due, () -> x.bestShower(1, 1000));
        CHECK.same("34: bestShower(6, 999)", x.bestShower(6, 999), 0);
    }

    private static void bestShowerEverywhere() {
        for (int n = 2; n <= 32; n++) {
            TerraceRain x = Check.taught("terraces " + n + ";");
            for (int low = 0; low < n; low++) {
                x.bringTo(0, n - 1, 0);
                x.rain(low, low, -3);
                CHECK.same("34: one of " + n + " at " + low, x.bestShower(1, 2), low);
                CHECK.same("34: two of " + n + " at " + low, x.bestShower(2, 2), Math.max(0, low - 1));
            }
        }
    }

    private static void meanHeight() {
        TerraceRain x = Check.taught("terraces 3;");
        CHECK.same("35: of nothing", x.meanHeight(), 0.0);
        x.rain(1, 1, 1);
        CHECK.same("35: a third", x.meanHeight(), 1.0 / 3.0);
        x.bringTo(0, 2, -7);
        CHECK.same("35: under a level", x.meanHeight(), -7.0);
        x.rain(2, 2, -1);
        CHECK.same("35: less than 0", x.meanHeight(), -22.0 / 3.0);
        int before = x.pushes();
        x.rain(0, 2, 1);
        x.meanHeight();
        CHECK.same("35: nothing is opened", x.pushes(), before);
    }

    /** Reckoned by hand from the words of the promise. */
    private static void digest() {
        TerraceRain x = Check.taught("terraces 2; look from 0 to 1; look from 0 to 1;");
        x.passDays(3);
        x.rain(0, 1, 4);
        x.lookForWater(0, 0);
        x.bringTo(0, 1, -6);
        x.rain(0, 1, 2);
        long[] numbers = {2, 3, 2, 3, 1, 1,
            1, -8, -4, -4, 2, 1, -6,
            2, 4, 4, 4, 0, 0, 0,
            3, 4, 4, 4, 0, 0, 0,
            -4, -4};
        long d = 977;
        for (long number : numbers) {
            d = d * 31 + number;
        }
        CHECK.same("36: digest()", x.digest(), d);
        CHECK.same("36: digest() again", x.digest(), d);
        CHECK.same("36: nothing is opened", x.pushes(), 1);
    }

    private static void digestOfMore() {
        TerraceRain x = Check.taught(VALLEY);
        x.passDays(5);
        x.bringTo(0, 5, 3);
        x.rain(4, 4, 1);
        x.rain(0, 5, 1);
        long d = 977;
        for (long number : new long[] {x.terraces(), x.branches(), x.orders(), x.days(), x.pushes(),
            x.waitingBranches()}) {
            d = d * 31 + number;
        }
        for (int b : new int[] {1, 2, 3, 4, 5, 6, 7, 8, 9, 12, 13}) {
            boolean has = x.hasLevelWaiting(b);
            for (long number : new long[] {b, x.waterToldBy(b), x.highestToldBy(b), x.lowestToldBy(b),
                x.rainWaitingAt(b), has ? 1 : 0, has ? x.levelWaitingAt(b) : 0}) {
                d = d * 31 + number;
            }
        }
        for (int terrace = 0; terrace < 6; terrace++) {
            d = d * 31 + x.heightOf(terrace);
        }
        CHECK.same("36: digest() of more", x.digest(), d);
    }
}
