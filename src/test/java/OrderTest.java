/** Promise 30 and terms 1 and 2: what sums and tests tell, and what orders do on a day. */
final class OrderTest {
    private static final Check CHECK = new Check();

    public static void main(String[] args) {
        sums();
        wrapping();
        tests();
        readings();
        readingsAreTakenAtTheirTurn();
        waterWrapsAround();
        held();
        terracesByRemainder();
        ordersInTheirOrder();
        looking();
        days();
        CHECK.end();
    }

    private static void sum(String sum, int due) {
        CHECK.tells(sum, due);
    }

    private static void test(String test, boolean due) {
        CHECK.holds(test, due);
    }

    private static void sums() {
        sum("7", 7);
        sum("007", 7);
        sum("1 + 2 * 3", 7);
        sum("(1 + 2) * 3", 9);
        sum("10 - 3 - 2", 5);
        sum("10 - (3 - 2)", 9);
        sum("100 / 5 / 2", 10);
        sum("100 / 5 * 2", 40);
        sum("3 * 100 / 8", 37);
        sum("100 / 8 * 3", 36);
        sum("-7 / 2", -3);
        sum("7 / -2", -3);
        sum("-7 / -2", 3);
        sum("7 / 0", 0);
        sum("0 / 0", 0);
        sum("7 / 0 + 3", 3);
        sum("--7", 7);
        sum("---7", -7);
        sum("-2 * 3", -6);
        sum("2 * -3", -6);
        sum("1 - -3", 4);
        sum("-(1 + 2)", -3);
        sum("-1 + 2", 1);
        sum("min(3, 5)", 3);
        sum("min(5, -3)", -3);
        sum("min(-3, 5)", -3);
        sum("max(3, 5)", 5);
        sum("max(5, 3)", 5);
        sum("max(-5, -3)", -3);
        sum("min(1 + 2, max(7, 8)) * 2", 6);
    }

    private static void wrapping() {
        // 65536 * 32768 is -2147483648
        test("65536 * 32768 < 0", true);
        test("65536 * 32768 - 1 = 65536 * 32768 - 1", true);
        test("65536 * 32768 - 1 > 0", true);
        test("65536 * 32768 / -1 = 65536 * 32768", true);
        test("-(65536 * 32768) = 65536 * 32768", true);
        test("65536 * 65536 = 0", true);
        test("999999 * 999999 = -(729379 * 1000 + 967)", true);
        test("65536 * 32768 - 1 + 1 < 0", true);
        test("65536 * 32768 + 65536 * 32768 = 0", true);
        test("65536 * 32768 / 2 = -32768 * 32768", true);
    }

    private static void tests() {
        test("1 < 2", true);
        test("2 < 2", false);
        test("2 > 1", true);
        test("2 > 2", false);
        test("2 = 2", true);
        test("2 = 1", false);
        test("2 <= 2", true);
        test("3 <= 2", false);
        test("1 <= 2", true);
        test("2 >= 2", true);
        test("1 >= 2", false);
        test("3 >= 2", true);
        test("-1 < 1", true);
        test("not 1 < 2", false);
        test("not not 1 < 2", true);
        test("1 < 2 and 2 < 3", true);
        test("1 < 2 and 3 < 3", false);
        test("3 < 2 and 2 < 3", false);
        test("3 < 2 or 2 < 3", true);
        test("1 < 2 or 3 < 3", true);
        test("3 < 2 or 3 < 3", false);
        // and binds more than or
        test("1 = 1 or 1 = 1 and 1 = 2", true);
        test("[1 = 1 or 1 = 1] and 1 = 2", false);
        test("1 = 2 and 1 = 1 or 1 = 1", true);
        test("1 = 2 and [1 = 1 or 1 = 1]", false);
        // not binds more than and
        test("not 1 = 2 and 1 = 2", false);
        test("not [1 = 2 and 1 = 2]", true);
        test("not 1 = 1 or 1 = 1", true);
        test("not [1 = 1 or 1 = 1]", false);
    }

    private static TerraceRain prepared(String order) {
        TerraceRain x = Check.taught("terraces 4; " + order);
        x.rain(0, 3, 10);
        x.rain(0, 0, 5);
        x.rain(2, 3, -7);
        return x;
    }

    /** Heights are 15 10 3 3; one push went by, and rain waits at the branch 3. */
    private static void readings() {
        reading("day", 0);
        reading("pushes", 2);
        reading("water", 31);
        reading("highest", 15);
        reading("lowest", 3);
        reading("waiting", 1);
        reading("height(0)", 15);
        reading("height(1)", 10);
        reading("height(2)", 3);
        reading("height(-1)", 3);
        reading("height(-3)", 10);
        reading("height(401)", 10);
        reading("height(height(2) - 2)", 10);
        TerraceRain x = Check.taught("terraces 2; level day from 0 to 1;");
        x.passDays(5);
        CHECK.same("30: day on the fifth day", x.heightOf(1), 4);
    }

    private static void reading(String sum, int due) {
        TerraceRain x = prepared("level " + sum + " from 0 to 0;");
        int before = x.pushes();
        x.passDays(1);
        CHECK.same("30: " + sum, x.heightOf(0), due);
        CHECK.same("30: nothing is opened for " + sum, x.pushes(), before);
        TerraceRain y = prepared("rain 1 from 0 to 3 when " + sum + " = " + due + ";");
        y.passDays(1);
        CHECK.same("30: test of " + sum, y.heightOf(2), 4);
    }

    private static void readingsAreTakenAtTheirTurn() {
        TerraceRain x = Check.taught("terraces 4; rain 3 from 0 to 3; rain water from 0 to 0; "
                + "rain pushes from 1 to 1; rain 100 from 3 to 3 when waiting = 1;");
        CHECK.same("30: pushes of the day", x.passDays(1), 3);
        CHECK.same("30: rain water", x.heightOf(0), 15);
        CHECK.same("30: rain pushes", x.heightOf(1), 3 + 2);
        CHECK.same("30: not at its turn", x.heightOf(3), 103);
        TerraceRain y = Check.taught("terraces 2; level 9 from 0 to 1; level 1 from 0 to 1 when height(0) = 9;"
                + "rain 5 from 0 to 0 when water = 2;");
        y.passDays(1);
        CHECK.same("30: tests at their turn", y.heightOf(0), 6);
    }

    private static void waterWrapsAround() {
        TerraceRain x = Check.taught("terraces 32;" + Check.repeat("rain 999 from 0 to 31;", 15)
                + "look from 0 to 0 when water < 0;");
        int pushes = 0;
        for (int i = 0; i < 149; i++) {
            pushes += x.passDays(30);
        }
        // 149 * 30 * 15 * 999 * 32 is 2143454400, and 2147483648 is reached 9 days later
        CHECK.same("30: water up to 2143454400", pushes, 0);
        CHECK.same("30: water up to 2147290560", x.passDays(8), 0);
        CHECK.same("30: water of 2147770080 is less than 0 in a test", x.passDays(1), 5);
        CHECK.same("14: but not told by the branch 1", x.waterToldBy(1), 2147770080L);
        CHECK.same("35: nor in the mean", x.meanHeight(), 67117815.0);
    }

    private static void held() {
        sum("999", 999);
        sum("1000", 999);
        sum("999999", 999);
        sum("-999", -999);
        sum("-1000", -999);
        sum("65536 * 32768", -999);
        TerraceRain x = Check.taught("terraces 2; rain 5000 from 0 to 0; rain -5000 from 1 to 1;");
        x.passDays(2);
        CHECK.same("30: rain held at 999", x.heightOf(0), 1998);
        CHECK.same("30: rain held at -999", x.heightOf(1), -1998);
    }

    private static void terracesByRemainder() {
        stretch("1", "3", "0111000");
        stretch("3", "1", "0111000");
        stretch("8", "3", "0111000");
        stretch("-6", "3", "0111000");
        stretch("-1", "0", "1111111");
        stretch("-1", "-1", "0000001");
        stretch("7", "700", "1000000");
        stretch("65536 * 32768", "65536 * 32768", "0000010");
        stretch("0", "6", "1111111");
    }

    private static void stretch(String from, String to, String due) {
        TerraceRain x = Check.taught("terraces 7; rain 1 from " + from + " to " + to + ";");
        x.passDays(1);
        StringBuilder heights = new StringBuilder();
        for (int i = 0; i < 7; i++) {
            heights.append(x.heightOf(i));
        }
        CHECK.same("30: rain 1 from " + from + " to " + to, heights.toString(), due);
    }

    private static void ordersInTheirOrder() {
        TerraceRain x = Check.taught("terraces 2; rain 5 from 0 to 0; level 3 from 0 to 0; rain 1 from 0 to 0;");
        x.passDays(1);
        CHECK.same("30: rain, level, rain", x.heightOf(0), 4);
        TerraceRain y = Check.taught("terraces 2; level 3 from 0 to 0; rain 1 from 0 to 0; rain 5 from 0 to 0;");
        y.passDays(1);
        CHECK.same("30: level, rain, rain", y.heightOf(0), 9);
    }

    private static void looking() {
        TerraceRain x = Check.taught("terraces 4; rain 1 from 0 to 3; look from 3 to 2; look from 0 to 0 when day = 1;");
        CHECK.same("30: a day with one look", x.passDays(1), 1);
        CHECK.same("30: rain waits at 2", x.rainWaitingAt(2), 1);
        CHECK.same("30: and at 3", x.rainWaitingAt(3), 1);
        CHECK.same("30: a day with two looks", x.passDays(1), 2);
        CHECK.same("30: nothing waits at 2", x.rainWaitingAt(2), 0);
        CHECK.same("30: more waits at 3", x.rainWaitingAt(3), 2);
    }

    private static void days() {
        TerraceRain x = Check.taught("terraces 4; rain 1 from 0 to 3; look from 0 to 0;");
        CHECK.same("30: passDays(1)", x.passDays(1), 2);
        CHECK.same("30: passDays(30)", x.passDays(30), 60);
        CHECK.same("30: days()", x.days(), 31);
        CHECK.same("30: pushes()", x.pushes(), 62);
        CHECK.same("30: heightOf(2)", x.heightOf(2), 31);
        CHECK.refuses("30: passDays(0)", x, IllegalArgumentException.class, () -> x.passDays(0));
        CHECK.refuses("30: passDays(31)", x, IllegalArgumentException.class, () -> x.passDays(31));
        CHECK.refuses("30: passDays(-1)", x, IllegalArgumentException.class, () -> x.passDays(-1));
    }
}
