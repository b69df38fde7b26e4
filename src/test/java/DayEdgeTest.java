import java.math.BigInteger;

/** The days of term 2 and promises 30 to 36: for each sentence that names an edge, a test of its own. */
final class DayEdgeTest {
    private static final Check CHECK = new Check();
    private static final String LEAST = "(-32768 * 65536)";
    private static final String GREATEST = "(32768 * 65535 + 32767)";

    public static void main(String[] args) {
        noOrders();
        rainIsHeld();
        levelsAreHeld();
        terracesByTheirRemainder();
        smallerAndGreaterOne();
        heightsByTheirRemainder();
        withAndWithoutATest();
        testsAtTheirTurn();
        dayBeforeItIsOver();
        readingsOfANewValley();
        nothingIsOpenedForReadings();
        readingsAhead();
        waterWrapsAroundAtTheTop();
        waterWrapsAroundAtTheBottom();
        waterComesBackToZero();
        waterIsToldInSixtyFourBits();
        passDaysTellsItsPushesAlone();
        oneDayAndThirty();
        nowAndAtMostThirty();
        forTheFirstTime();
        showerOnOneAndOnAll();
        showerOfNothing();
        showersAlike();
        showerAtTheVeryEnd();
        showerKnowsWhatWaits();
        meanBetweenHeights();
        digestWrapsAround();
        lastOfItsCalls();
        CHECK.end();
    }

    private static String dayOf(String valley) {
        TerraceRain x = Check.taught(valley);
        x.passDays(1);
        return Check.heights(x);
    }

    private static void noOrders() {
        TerraceRain x = new TerraceRain();
        CHECK.same("30: passDays(30) without orders", x.passDays(30), 0);
        CHECK.same("9: days()", x.days(), 30);
        CHECK.same("14: waterToldBy(1)", x.waterToldBy(1), 0);
        CHECK.same("31: waterAfter(30)", x.waterAfter(30), 0);
        CHECK.same("32: waitingAfter(30)", x.waitingAfter(30), 0);
        CHECK.same("33: daysUntil(0, 0)", x.daysUntil(0, 0), 0);
        CHECK.same("33: daysUntil(0, 1)", x.daysUntil(0, 1), -1);
    }

    private static final String[][] HELD = {{"998", "998"}, {"999", "999"}, {"1000", "999"}, {"999999", "999"},
        {GREATEST, "999"}, {"-998", "-998"}, {"-999", "-999"}, {"-1000", "-999"}, {LEAST, "-999"}, {"0", "0"}};

    private static void rainIsHeld() {
        for (String[] h : HELD) {
            CHECK.same("30: rain " + h[0], dayOf("terraces 2; rain " + h[0] + " from 1 to 1;"), "0 " + h[1]);
        }
    }

    private static void levelsAreHeld() {
        for (String[] h : HELD) {
            CHECK.same("30: level " + h[0], dayOf("terraces 2; level " + h[0] + " from 1 to 1;"), "0 " + h[1]);
        }
    }

    private static void terracesByTheirRemainder() {
        for (int n = 2; n <= 32; n++) {
            int[] told = {0, 1, n - 1, n, n + 1, 2 * n - 1, 2 * n, 999999, -1, -n, -n - 1, 1 - n, -999999};
            for (int terrace : told) {
                remainder(n, Integer.toString(terrace), Math.floorMod(terrace, n));
            }
            remainder(n, LEAST, Math.floorMod(Integer.MIN_VALUE, n));
            remainder(n, GREATEST, Math.floorMod(Integer.MAX_VALUE, n));
        }
    }

    private static void remainder(int n, String told, int terrace) {
        String due = Check.repeat("0 ", terrace) + "7" + Check.repeat(" 0", n - 1 - terrace);
        CHECK.same("30: the terrace " + told + " of " + n,
                dayOf("terraces " + n + "; rain 7 from " + told + " to " + told + ";"), due);
    }

    private static void smallerAndGreaterOne() {
        String[][] due = {{"1", "2", "0 1 1 0"}, {"2", "1", "0 1 1 0"}, {"2", "2", "0 0 1 0"}, {"0", "3", "1 1 1 1"},
            {"3", "0", "1 1 1 1"}, {"3", "4", "1 1 1 1"}, {"-1", "2", "0 0 1 1"}, {"5", "-2", "0 1 1 0"},
            {"4", "4", "1 0 0 0"}, {"7", "8", "1 1 1 1"}};
        for (String[] d : due) {
            for (String order : new String[] {"rain", "level"}) {
                CHECK.same("30: " + order + " from " + d[0] + " to " + d[1],
                        dayOf("terraces 4; " + order + " 1 from " + d[0] + " to " + d[1] + ";"), d[2]);
            }
            TerraceRain x = Check.taught("terraces 4; rain 1 from 0 to 3; look from " + d[0] + " to " + d[1] + ";");
            TerraceRain y = Check.taught("terraces 4;");
            y.rain(0, 3, 1);
            int pushes = y.pushesToLook(d[2].indexOf('1') / 2, d[2].lastIndexOf('1') / 2);
            CHECK.same("30: look from " + d[0] + " to " + d[1], x.passDays(1), pushes);
        }
    }

    private static void heightsByTheirRemainder() {
        String[][] due = {{"0", "5"}, {"2", "7"}, {"3", "5"}, {"-1", "7"}, {"-3", "5"}, {"-4", "7"}, {"999999", "5"},
            {LEAST, "6"}, {GREATEST, "6"}};
        for (String[] d : due) {
            TerraceRain x = Check.taught("terraces 3; rain 100 * height(" + d[0] + ") from 1 to 1;");
            x.rain(0, 2, 5);
            x.rain(1, 2, 1);
            x.rain(2, 2, 1);
            x.passDays(1);
            CHECK.same("30: height(" + d[0] + ")", x.heightOf(1), 6 + 100 * Integer.parseInt(d[1]));
        }
    }

    private static void withAndWithoutATest() {
        CHECK.same("30: no test", dayOf("terraces 2; rain 1 from 0 to 0;"), "1 0");
        CHECK.same("30: it holds", dayOf("terraces 2; rain 1 from 0 to 0 when 0 = 0;"), "1 0");
        CHECK.same("30: it does not", dayOf("terraces 2; rain 1 from 0 to 0 when 0 < 0;"), "0 0");
        CHECK.same("30: each its own",
                dayOf("terraces 2; rain 1 from 0 to 0 when 0 < 0; rain 2 from 1 to 1; level 4 from 0 to 0 when 1 > 2;"),
                "0 2");
        TerraceRain x = Check.taught("terraces 2; rain 1 from 0 to 1; look from 0 to 0 when 0 < 0;");
        CHECK.same("30: a look that does not come", x.passDays(1), 0);
    }

    private static void testsAtTheirTurn() {
        CHECK.same("30: changed by the order before",
                dayOf("terraces 2; rain 1 from 0 to 0; rain 2 from 1 to 1 when height(0) = 1;"), "1 2");
        CHECK.same("30: not by the one behind",
                dayOf("terraces 2; rain 2 from 1 to 1 when height(0) = 1; rain 1 from 0 to 0;"), "1 0");
        CHECK.same("30: not by itself",
                dayOf("terraces 2; rain height(0) + 1 from height(0) to height(0) when height(0) = 0;"), "1 0");
    }

    private static void dayBeforeItIsOver() {
        TerraceRain x = Check.taught("terraces 3; rain 1 from day to day;");
        x.passDays(1);
        CHECK.same("30: the day 0", Check.heights(x), "1 0 0");
        CHECK.same("9: days()", x.days(), 1);
        x.passDays(2);
        CHECK.same("30: the days 1 and 2", Check.heights(x), "1 1 1");
        CHECK.same("9: days()", x.days(), 3);
        TerraceRain y = Check.taught("terraces 2; rain 1 from 0 to 0 when day = 29; rain 1 from 1 to 1 when day = 30;");
        y.passDays(30);
        CHECK.same("30: the last of thirty days", Check.heights(y), "1 0");
        y.passDays(1);
        CHECK.same("30: and the next one", Check.heights(y), "1 1");
    }

    private static void readingsOfANewValley() {
        for (String reading : new String[] {"day", "pushes", "water", "highest", "lowest", "waiting", "height(0)"}) {
            CHECK.holds(reading + " = 0", true);
        }
        TerraceRain x = Check.taught("terraces 32; rain waiting from 0 to 0;");
        for (int size = 2; size <= 32; size *= 2) {
            for (int first = 0; first < 32; first += size) {
                x.rain(first, first + size - 1, 1);
            }
        }
        CHECK.same("11: rain waits at all branches over several", x.waitingBranches(), 31);
        int before = x.heightOf(0);
        x.passDays(1);
        CHECK.same("30: so many are waiting", x.heightOf(0), before + 31);
        CHECK.same("11: five of them are opened", x.waitingBranches(), 26);
        CHECK.same("27: openAll() opens the others", x.openAll(), 26);
    }

    private static void nothingIsOpenedForReadings() {
        TerraceRain x = Check.taught("terraces 8; rain day + pushes + water + highest + lowest + waiting + height(3)"
                + " from height(7) to water when height(5) = height(2) and waiting = 1 or lowest < highest;");
        x.rain(0, 7, 8);
        CHECK.same("30: 8 wait at 1, and so do 0 + 0 + 64 + 8 + 8 + 1 + 8, on 0", x.passDays(1), 3);
        CHECK.same("30: heights", Check.heights(x), "97 8 8 8 8 8 8 8");
        TerraceRain y = Check.taught("terraces 8; level 1 from 0 to 0 when height(5) = 9 or waiting = 2 or water = 3;");
        y.rain(0, 7, 8);
        CHECK.same("30: a test opens nothing", y.passDays(30), 0);
    }

    /** What sums read stands ahead as it does now: each of them alone tells what rains. */
    private static void readingsAhead() {
        String[][] due = {{"day", "2"}, {"pushes", "5"}, {"water", "31"}, {"highest", "15"}, {"lowest", "3"},
            {"waiting", "1"}, {"height(0)", "15"}, {"height(1)", "10"}, {"height(3)", "3"}};
        for (String[] d : due) {
            TerraceRain x = Check.taught("terraces 4; rain " + d[0] + " from 1 to 1; rain 0 from 0 to 0;");
            x.passDays(2);
            x.bringTo(0, 3, 0);
            x.openAll();
            x.rain(0, 3, 10);
            x.rain(0, 0, 5);
            x.rain(2, 3, -7);
            long water = x.waterToldBy(1);
            int rain = Integer.parseInt(d[1]);
            CHECK.same("31: rain " + d[0], x.waterAfter(1) - water, rain);
            CHECK.same("33: rain " + d[0], x.daysUntil(1, 10 + rain), rain == 0 ? 0 : 1);
            x.passDays(1);
            CHECK.same("30: rain " + d[0], x.heightOf(1), 10 + rain);
        }
    }

    /** Fifteen orders with so much rain on all terraces for so many days, and one that tells the sign of water. */
    private static TerraceRain flooded(int rain, int days) {
        TerraceRain x = Check.taught("terraces 32;"
                + Check.repeat("rain " + rain + " from 0 to 31 when day<" + days + ";", 15)
                + "rain min(1,max(-1,water)) from 0 to 0;");
        for (int left = days; left > 0; left -= 30) {
            x.passDays(Math.min(30, left));
        }
        return x;
    }

    private static void rainTo(TerraceRain x, long water) {
        long missing = water - x.waterToldBy(1);
        for (int i = 0; i < 40 && missing != 0; i++) {
            int width = Math.abs(missing) >= 32 ? 32 : 1;
            int amount = (int) Math.max(-999, Math.min(999, missing / width));
            x.rain(0, width - 1, amount);
            missing -= (long) amount * width;
        }
        CHECK.same("14: waterToldBy(1)", x.waterToldBy(1), water);
    }

    private static void signOfWater(TerraceRain x, long water, int due) {
        rainTo(x, water);
        CHECK.same("30: sign of the water " + water + " in a sum", x.waterAfter(1) - water, due);
    }

    private static void waterWrapsAroundAtTheTop() {
        TerraceRain x = flooded(999, 4478);
        signOfWater(x, 2147483646L, 1);
        signOfWater(x, 2147483647L, 1);
        signOfWater(x, 2147483648L, -1);
        signOfWater(x, 2147483649L, -1);
    }

    private static void waterWrapsAroundAtTheBottom() {
        TerraceRain x = flooded(-999, 4478);
        signOfWater(x, -2147483647L, -1);
        signOfWater(x, -2147483648L, -1);
        signOfWater(x, -2147483649L, 1);
        signOfWater(x, -2147483650L, 1);
    }

    private static void waterComesBackToZero() {
        TerraceRain x = flooded(999, 8956);
        signOfWater(x, 4294967295L, -1);
        signOfWater(x, 4294967296L, 0);
        signOfWater(x, 4294967297L, 1);
    }

    /** Water wraps around in sums, and nowhere else. */
    private static void waterIsToldInSixtyFourBits() {
        TerraceRain x = flooded(999, 8956);
        rainTo(x, 4294967296L);
        // in the sum it is 0, so that the orders bring nothing more
        CHECK.same("31: waterAfter(30)", x.waterAfter(30), 4294967296L);
        CHECK.same("35: meanHeight()", x.meanHeight(), 134217728.0);
        CHECK.same("23: lookForWater(0, 31)", x.lookForWater(0, 31), 4294967296L);
        CHECK.same("23: lookForWater of most of them", x.lookForWater(1, 31), 4294967296L - x.heightOf(0));
        CHECK.same("14: waterToldBy(2) and (3)", x.waterToldBy(2) + x.waterToldBy(3), 4294967296L);
        CHECK.same("29: how much less", x.bringTo(0, 31, 0), -4294967296L);
        CHECK.same("14: waterToldBy(1)", x.waterToldBy(1), 0);
    }

    private static void passDaysTellsItsPushesAlone() {
        TerraceRain x = Check.taught("terraces 2; rain 1 from 0 to 1; look from 0 to 0 when day > 0;");
        x.rain(0, 1, 1);
        x.openAll();
        CHECK.same("30: no push on the first day", x.passDays(1), 0);
        CHECK.same("30: one on the second", x.passDays(1), 1);
        CHECK.same("30: one on each of thirty", x.passDays(30), 30);
        CHECK.same("10: in all, with that by hand", x.pushes(), 32);
    }

    private static void oneDayAndThirty() {
        for (int days : new int[] {1, 2, 29, 30}) {
            TerraceRain x = Check.taught("terraces 2; rain 3 from 0 to 1;");
            CHECK.same("31: waterAfter(" + days + ")", x.waterAfter(days), 6 * days);
            CHECK.same("32: waitingAfter(" + days + ")", x.waitingAfter(days), 1);
            CHECK.same("30: passDays(" + days + ")", x.passDays(days), 0);
            CHECK.same("9: days()", x.days(), days);
            CHECK.same("14: waterToldBy(1)", x.waterToldBy(1), 6 * days);
        }
    }

    private static void nowAndAtMostThirty() {
        TerraceRain x = Check.taught("terraces 2; rain 1 from 0 to 1;");
        for (int height = -2; height <= 32; height++) {
            int due = height <= 0 ? 0 : height <= 30 ? height : -1;
            CHECK.same("33: daysUntil(1, " + height + ")", x.daysUntil(1, height), due);
        }
        x.passDays(30);
        CHECK.same("33: now behind 30 days", x.daysUntil(0, 30), 0);
        CHECK.same("33: 60 behind 30 days", x.daysUntil(0, 60), 30);
        CHECK.same("33: 61 behind 30 days", x.daysUntil(0, 61), -1);
        TerraceRain y = Check.taught("terraces 2; rain 1 from 0 to 0 when day = 0; rain 2 from 0 to 0 when day = 29;"
                + "rain 3 from 0 to 0 when day = 30;");
        CHECK.same("33: on the first day", y.daysUntil(0, 1), 1);
        CHECK.same("33: on the last day", y.daysUntil(0, 3), 30);
        CHECK.same("33: behind the last day", y.daysUntil(0, 4), -1);
    }

    private static void forTheFirstTime() {
        TerraceRain x = Check.taught("terraces 2; level 9 from 0 to 0 when day = 4; level 0 from 0 to 0 when day = 6;"
                + "level 9 from 0 to 0 when day = 8;");
        CHECK.same("33: the first time", x.daysUntil(0, 9), 5);
        x.passDays(5);
        CHECK.same("33: now", x.daysUntil(0, 9), 0);
        x.passDays(2);
        CHECK.same("33: once more", x.daysUntil(0, 9), 2);
        x.passDays(1);
        CHECK.same("33: on the next day", x.daysUntil(0, 9), 1);
        // high only between the orders of one day, not behind it
        TerraceRain y = Check.taught("terraces 2; level 9 from 0 to 0; level 0 from 0 to 0;");
        CHECK.same("33: not behind a day", y.daysUntil(0, 9), -1);
    }

    private static TerraceRain standing(int... heights) {
        TerraceRain x = Check.taught("terraces " + heights.length + ";");
        for (int t = 0; t < heights.length; t++) {
            x.bringTo(t, t, heights[t]);
        }
        return x;
    }

    private static void showerOnOneAndOnAll() {
        TerraceRain x = standing(4, 2, 5, 3);
        CHECK.same("34: on one", x.bestShower(1, 1), 1);
        CHECK.same("34: on all", x.bestShower(4, 999), 0);
        CHECK.same("34: on all but one", x.bestShower(3, 2), 1);
        CHECK.same("34: of all but one the smaller one", x.bestShower(3, 1), 0);
        CHECK.same("34: the greatest amount on one", x.bestShower(1, 999), 1);
        CHECK.same("34: on two of two", standing(1, 0).bestShower(2, 5), 0);
        CHECK.same("34: on one of two", standing(1, 0).bestShower(1, 5), 1);
        CHECK.same("34: on one of two", standing(0, 1).bestShower(1, 5), 0);
    }

    private static void showerOfNothing() {
        CHECK.same("34: of nothing", standing(4, 2, 5, 3).bestShower(1, 0), 0);
        CHECK.same("34: of nothing on three", standing(4, 4, 4, 3).bestShower(3, 0), 0);
        CHECK.same("34: of 1", standing(4, 4, 4, 3).bestShower(1, 1), 3);
    }

    /** Of several the smallest one. */
    private static void showersAlike() {
        CHECK.same("34: all alike", standing(1, 1, 1, 1, 1).bestShower(2, 9), 0);
        CHECK.same("34: two as low", standing(5, 1, 5, 1, 5).bestShower(1, 9), 0);
        CHECK.same("34: two as low, both held", standing(5, 5, 1, 5, 1).bestShower(3, 9), 2);
        CHECK.same("34: one low, two ways", standing(5, 5, 1, 5, 5).bestShower(2, 9), 1);
        CHECK.same("34: a second lowest", standing(5, 2, 1, 2, 5).bestShower(2, 9), 1);
        CHECK.same("34: under the last of the first", standing(5, 1, 5, 5).bestShower(2, 9), 0);
        CHECK.same("34: less is better in no place", standing(5, 2, 1, 5, 5).bestShower(1, 9), 2);
    }

    private static void showerAtTheVeryEnd() {
        for (int n : new int[] {2, 16, 31, 32}) {
            TerraceRain x = Check.taught("terraces " + n + ";");
            x.rain(n - 1, n - 1, -9);
            for (int width = 1; width <= n; width++) {
                CHECK.same("34: on " + width + " of " + n, x.bestShower(width, 1), n - width);
            }
        }
    }

    private static void showerKnowsWhatWaits() {
        TerraceRain x = Check.taught("terraces 4; rain 50 from 0 to 0;");
        x.rain(0, 1, -5);
        x.bringTo(0, 3, 2);
        x.rain(2, 3, -1);
        CHECK.same("34: a level hides the rain", x.bestShower(2, 1), 2);
        CHECK.same("34: its orders are not asked", x.bestShower(1, 1), 0);
    }

    private static void meanBetweenHeights() {
        CHECK.same("35: a half", standing(0, 1).meanHeight(), 0.5);
        CHECK.same("35: less than 0", standing(0, -1).meanHeight(), -0.5);
        CHECK.same("35: a third", standing(0, 1, 0).meanHeight(), 1.0 / 3);
        CHECK.same("35: nothing", standing(7, -7).meanHeight(), 0.0);
        CHECK.same("35: the greatest level", standing(999, 999).meanHeight(), 999.0);
        TerraceRain x = standing(1, 2, 4);
        x.rain(0, 2, 1);
        CHECK.same("35: with what waits", x.meanHeight(), 10.0 / 3);
        CHECK.same("35: nothing is opened", x.rainWaitingAt(1), 1);
    }

    /** Reckoned without wrapping around, and cut to 64 bits at the end. */
    private static void digestWrapsAround() {
        for (int n : new int[] {2, 16, 32}) {
            TerraceRain x = Check.taught("terraces " + n + "; rain -9 from 0 to -1; look from 0 to 0;");
            x.passDays(3);
            x.bringTo(1, n - 1, -5);
            x.bringTo(0, n - 1, 6);
            x.rain(0, n - 1, -7);
            long[] head = {x.terraces(), x.branches(), x.orders(), x.days(), x.pushes(), x.waitingBranches()};
            BigInteger d = BigInteger.valueOf(977);
            for (long number : head) {
                d = times31(d, number);
            }
            for (int b = 1; b < 2 * n; b++) {
                boolean has = x.hasLevelWaiting(b);
                for (long number : new long[] {b, x.waterToldBy(b), x.highestToldBy(b), x.lowestToldBy(b),
                    x.rainWaitingAt(b), has ? 1 : 0, has ? x.levelWaitingAt(b) : 0}) {
                    d = times31(d, number);
                }
            }
            for (int t = 0; t < n; t++) {
                d = times31(d, x.heightOf(t));
            }
            CHECK.same("36: it is beyond 64 bits of " + n, d.bitLength() > 64, true);
            CHECK.same("36: digest() of " + n, x.digest(), d.longValue());
        }
    }

    private static BigInteger times31(BigInteger d, long number) {
        return d.multiply(BigInteger.valueOf(31)).add(BigInteger.valueOf(number));
    }

    /** An object is used for at most 512 calls: nothing overflows until then. */
    private static void lastOfItsCalls() {
        for (int sign : new int[] {1, -1}) {
            String text = "terraces 32;" + Check.repeat("rain " + sign * 999 + " from 0 to 31;", 14)
                    + "rain " + sign * 999 + " from 0 to 30;rain " + sign * 999 + " from 1 to 31;";
            int calls = (text.length() + 19) / 20 + (text.length() % 20 == 0 ? 1 : 2);
            TerraceRain x = Check.taught(text);
            int days = 0;
            for (; calls < 509; calls++) {
                x.passDays(30);
                days += 30;
            }
            long water = sign * 999L * (14 * 32 + 31 + 31) * days;
            CHECK.same("31: call 510", x.waterAfter(30), water / days * (days + 30));
            CHECK.same("14: call 511", x.waterToldBy(1), water);
            CHECK.same("20: call 512", x.heightOf(1), sign * 999 * 16 * days);
        }
    }
}
