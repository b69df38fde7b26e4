import java.util.List;

/**
 * Each call that the document refuses: the last arguments that are allowed and the first that are not,
 * at both ends. It throws what the document names, and changes nothing.
 */
final class RefusalTest {
    private static final Check CHECK = new Check();
    private static final int LEAST = Integer.MIN_VALUE;
    private static final int GREATEST = Integer.MAX_VALUE;
    private static final Class<IndexOutOfBoundsException> INDEX = IndexOutOfBoundsException.class;
    private static final Class<IllegalArgumentException> ARGUMENT = IllegalArgumentException.class;
    private static final Class<IllegalStateException> STATE = IllegalStateException.class;
    private static final int[] SIZES = {2, 7, 16, 32};

    public static void main(String[] args) {
        feed();
        trim();
        for (int n : SIZES) {
            branches(n);
            branchesFarAway(n);
            singleTerraces(n);
            stretches(n);
            amounts(n);
            amountsAndStretches(n);
            days(n);
            showers(n);
        }
        levelOfRainAlone();
        newObject();
        CHECK.end();
    }

    /** Rain and levels wait, the latest teach had an error, and a valley stands on the tape. */
    private static TerraceRain busy(int n) {
        TerraceRain x = Check.taught("terraces " + n + "; rain day + 1 from 0 to 1;"
                + "level pushes from 1 to -1 when day = 3; look from 1 to 1 when waiting > 1;");
        x.passDays(2);
        x.rain(0, n - 1, 3);
        x.rain(1, n - 1, -2);
        x.bringTo(0, n - 1, 4);
        x.rain(0, 0, 0);
        x.bringTo(0, n - 1, -6);
        x.rain(0, n - 1, 5);
        Check.teach(x, "terraces 7; ?");
        Check.feed(x, "terraces 5; rain 2 from 1 to 3;");
        return x;
    }

    private static TerraceRain withTape(int bytes) {
        String text = "terraces 5; rain 2 from 1 to 3;";
        TerraceRain x = busy(7);
        x.trim(0);
        Check.feed(x, (text + Check.repeat(" ", 2000)).substring(0, bytes - 1) + "\u0001");
        return x;
    }

    private static void feed() {
        for (int bytes : new int[] {1981, 1990, 1999, 2000}) {
            CHECK.refusesAndGoesOn("2: feed behind " + bytes, () -> withTape(bytes), STATE,
                    x -> x.feed(0, 0, 0, 0, 0));
            CHECK.refusesAndGoesOn("2: feed of blanks behind " + bytes, () -> withTape(bytes), STATE,
                    x -> x.feed(0x20202020, 0x20202020, 0x20202020, 0x20202020, 0x20202020));
        }
        for (int bytes : new int[] {1, 20, 1979, 1980}) {
            TerraceRain x = withTape(bytes);
            CHECK.same("2: feed behind " + bytes, x.feed(LEAST, GREATEST, -1, 0, 1), bytes + 20);
            CHECK.same("2: all of it stands", x.trim(bytes + 20), bytes + 20);
        }
    }

    private static void trim() {
        for (int bytes : new int[] {1, 20, 33, 1999, 2000}) {
            for (int n : new int[] {-1, bytes + 1, LEAST, GREATEST, -bytes, bytes + 20}) {
                CHECK.refusesAndGoesOn("3: trim(" + n + ") of " + bytes, () -> withTape(bytes), ARGUMENT,
                        x -> x.trim(n));
            }
            TerraceRain x = withTape(bytes);
            for (int n : new int[] {bytes, bytes - 1, 0}) {
                CHECK.same("3: trim(" + n + ") of " + bytes, x.trim(n), n);
                CHECK.refuses("3: trim(" + (n + 1) + ") of " + n, x, ARGUMENT, () -> x.trim(n + 1));
            }
        }
        CHECK.refusesAndGoesOn("3: trim(1) of nothing", TerraceRain::new, ARGUMENT, x -> x.trim(1));
        CHECK.refusesAndGoesOn("3: trim(-1) of nothing", TerraceRain::new, ARGUMENT, x -> x.trim(-1));
    }

    private static void branches(int n) {
        Model.Node root = new Model(n, List.of()).root;
        for (int b = -2; b <= 130; b++) {
            Model.Node branch = root.find(b);
            if (branch == null) {
                noBranch(n, b);
            } else {
                branch(n, branch);
            }
        }
    }

    private static void branch(int n, Model.Node branch) {
        int b = branch.number;
        TerraceRain x = busy(n);
        CHECK.same("12: firstOf(" + b + ") of " + n, x.firstOf(b), branch.first);
        CHECK.same("13: lastOf(" + b + ") of " + n, x.lastOf(b), branch.last);
        if (b == 1) {
            CHECK.same("18: hasLevelWaiting(1) of " + n, x.hasLevelWaiting(1), true);
            CHECK.same("19: levelWaitingAt(1) of " + n, x.levelWaitingAt(1), -6);
        } else if (x.hasLevelWaiting(b)) {
            CHECK.same("19: levelWaitingAt(" + b + ") of " + n, x.levelWaitingAt(b), 4);
            CHECK.same("18: not over a single terrace", branch.first < branch.last, true);
        } else {
            CHECK.refusesAndGoesOn("19: levelWaitingAt(" + b + ") of " + n, () -> busy(n), STATE,
                    y -> y.levelWaitingAt(b));
        }
    }

    private static void branchesFarAway(int n) {
        for (int b : new int[] {LEAST, LEAST + 1, GREATEST, GREATEST - 1, -63, 1 << 16, 1 << 30, (1 << 30) + 1}) {
            noBranch(n, b);
        }
    }

    private static void noBranch(int n, int b) {
        TerraceRain x = busy(n);
        String behind = "(" + b + ") of " + n;
        CHECK.refuses("12: firstOf" + behind, x, INDEX, () -> x.firstOf(b));
        CHECK.refuses("13: lastOf" + behind, x, INDEX, () -> x.lastOf(b));
        CHECK.refuses("14: waterToldBy" + behind, x, INDEX, () -> x.waterToldBy(b));
        CHECK.refuses("15: highestToldBy" + behind, x, INDEX, () -> x.highestToldBy(b));
        CHECK.refuses("16: lowestToldBy" + behind, x, INDEX, () -> x.lowestToldBy(b));
        CHECK.refuses("17: rainWaitingAt" + behind, x, INDEX, () -> x.rainWaitingAt(b));
        CHECK.refuses("18: hasLevelWaiting" + behind, x, INDEX, () -> x.hasLevelWaiting(b));
        // no level waits there either, but that there is no such branch is named first
        CHECK.refuses("19: levelWaitingAt" + behind, x, INDEX, () -> x.levelWaitingAt(b));
        CHECK.goesOnAlike("12 to 19: of the branch" + behind, x, busy(n));
    }

    private static void singleTerraces(int n) {
        for (int t : new int[] {-1, n, n + 1, -n, 32, 33, 64, LEAST, GREATEST}) {
            String of = "(" + t + ") of " + n;
            if (t < 0 || t >= n) {
                CHECK.refusesAndGoesOn("20: heightOf" + of, () -> busy(n), INDEX, x -> x.heightOf(t));
                CHECK.refusesAndGoesOn("21: waitingOver" + of, () -> busy(n), INDEX, x -> x.waitingOver(t));
                for (int height : new int[] {0, LEAST, GREATEST}) {
                    CHECK.refusesAndGoesOn("33: daysUntil" + of, () -> busy(n), INDEX, x -> x.daysUntil(t, height));
                }
            }
        }
        for (int t : new int[] {0, n - 1}) {
            String of = "(" + t + ") of " + n;
            CHECK.answersAndGoesOn("20: heightOf" + of, () -> busy(n), -1, x -> x.heightOf(t));
            // the rain of 0 has opened all that is over the terrace 0, and left a level at the branch 3
            CHECK.answersAndGoesOn("21: waitingOver" + of, () -> busy(n), t == 0 || n == 2 ? 1 : 2,
                    x -> x.waitingOver(t));
            CHECK.answersAndGoesOn("33: daysUntil" + of, () -> busy(n), 0, x -> x.daysUntil(t, -1));
            CHECK.answersAndGoesOn("33: daysUntil least" + of, () -> busy(n), 0, x -> x.daysUntil(t, LEAST));
            CHECK.answersAndGoesOn("33: daysUntil greatest" + of, () -> busy(n), -1, x -> x.daysUntil(t, GREATEST));
        }
    }

    private static int[][] wrongStretches(int n) {
        return new int[][] {{-1, 0}, {-1, -1}, {-1, n - 1}, {0, n}, {n - 1, n}, {n, n}, {n, n - 1}, {1, 0},
            {n - 1, n - 2}, {n - 1, 0}, {0, -1}, {-1, n}, {LEAST, 0}, {0, GREATEST}, {LEAST, GREATEST},
            {GREATEST, LEAST}, {GREATEST, GREATEST}, {LEAST, LEAST}, {0, LEAST}, {GREATEST, 0}};
    }

    private static void stretches(int n) {
        for (int[] w : wrongStretches(n)) {
            String of = "(" + w[0] + ", " + w[1] + ") of " + n;
            CHECK.refusesAndGoesOn("22: pushesToLook" + of, () -> busy(n), INDEX, x -> x.pushesToLook(w[0], w[1]));
            CHECK.refusesAndGoesOn("23: lookForWater" + of, () -> busy(n), INDEX, x -> x.lookForWater(w[0], w[1]));
            CHECK.refusesAndGoesOn("24: lookForHighest" + of, () -> busy(n), INDEX,
                    x -> x.lookForHighest(w[0], w[1]));
            CHECK.refusesAndGoesOn("25: lookForLowest" + of, () -> busy(n), INDEX, x -> x.lookForLowest(w[0], w[1]));
            CHECK.refusesAndGoesOn("28: rain" + of, () -> busy(n), INDEX, x -> x.rain(w[0], w[1], 1));
            CHECK.refusesAndGoesOn("29: bringTo" + of, () -> busy(n), INDEX, x -> x.bringTo(w[0], w[1], 1));
        }
        for (int[] w : new int[][] {{0, 0}, {n - 1, n - 1}, {0, n - 1}}) {
            String of = "(" + w[0] + ", " + w[1] + ") of " + n;
            int width = w[1] - w[0] + 1;
            CHECK.same("22: pushesToLook" + of, busy(n).pushesToLook(w[0], w[1]) > 0, width < n);
            CHECK.same("23: lookForWater" + of, busy(n).lookForWater(w[0], w[1]), -width);
            CHECK.same("24: lookForHighest" + of, busy(n).lookForHighest(w[0], w[1]), -1);
            CHECK.same("25: lookForLowest" + of, busy(n).lookForLowest(w[0], w[1]), -1);
            CHECK.same("28: rain" + of, busy(n).rain(w[0], w[1], 1), 1);
            CHECK.same("29: bringTo" + of, busy(n).bringTo(w[0], w[1], 1), 2 * width);
        }
    }

    private static void amounts(int n) {
        for (int amount : new int[] {-1000, 1000, -1001, 1001, LEAST, GREATEST}) {
            CHECK.refusesAndGoesOn("28: rain of " + amount, () -> busy(n), ARGUMENT, x -> x.rain(0, 1, amount));
            CHECK.refusesAndGoesOn("29: bringTo " + amount, () -> busy(n), ARGUMENT, x -> x.bringTo(0, 1, amount));
        }
        for (int amount : new int[] {-999, 999, -998, 998, 0}) {
            TerraceRain x = busy(n);
            x.rain(n - 1, n - 1, amount);
            CHECK.same("28: rain of " + amount, x.heightOf(n - 1), amount - 1);
            CHECK.same("29: bringTo " + amount, x.bringTo(n - 1, n - 1, amount), 1);
            CHECK.same("29: brought to " + amount, x.heightOf(n - 1), amount);
        }
    }

    /** That there are no such terraces is named first. */
    private static void amountsAndStretches(int n) {
        for (int[] w : wrongStretches(n)) {
            for (int amount : new int[] {1000, -1000}) {
                String of = "(" + w[0] + ", " + w[1] + ", " + amount + ") of " + n;
                CHECK.refusesAndGoesOn("28: rain" + of, () -> busy(n), INDEX, x -> x.rain(w[0], w[1], amount));
                CHECK.refusesAndGoesOn("29: bringTo" + of, () -> busy(n), INDEX, x -> x.bringTo(w[0], w[1], amount));
            }
        }
    }

    private static void days(int n) {
        for (int days : new int[] {0, 31, -1, 32, -30, LEAST, GREATEST}) {
            CHECK.refusesAndGoesOn("30: passDays(" + days + ")", () -> busy(n), ARGUMENT, x -> x.passDays(days));
            CHECK.refusesAndGoesOn("31: waterAfter(" + days + ")", () -> busy(n), ARGUMENT, x -> x.waterAfter(days));
            CHECK.refusesAndGoesOn("32: waitingAfter(" + days + ")", () -> busy(n), ARGUMENT,
                    x -> x.waitingAfter(days));
        }
        for (int days : new int[] {1, 2, 29, 30}) {
            TerraceRain then = busy(n);
            then.passDays(days);
            CHECK.same("30: days() behind passDays(" + days + ")", then.days(), 2 + days);
            CHECK.answersAndGoesOn("31: waterAfter(" + days + ")", () -> busy(n), then.waterToldBy(1),
                    x -> x.waterAfter(days));
            CHECK.answersAndGoesOn("32: waitingAfter(" + days + ")", () -> busy(n), then.waitingBranches(),
                    x -> x.waitingAfter(days));
        }
    }

    private static void showers(int n) {
        int[][] wrong = {{0, 5}, {n + 1, 5}, {-1, 5}, {LEAST, 5}, {GREATEST, 5}, {1, -1}, {n, -1}, {1, 1000},
            {n, 1000}, {1, LEAST}, {1, GREATEST}, {0, -1}, {n + 1, 1000}};
        for (int[] w : wrong) {
            CHECK.refusesAndGoesOn("34: bestShower(" + w[0] + ", " + w[1] + ") of " + n, () -> busy(n), ARGUMENT,
                    x -> x.bestShower(w[0], w[1]));
        }
        for (int[] w : new int[][] {{1, 0}, {1, 999}, {n, 0}, {n, 999}, {1, 1}, {n - 1, 998}}) {
            CHECK.answersAndGoesOn("34: bestShower(" + w[0] + ", " + w[1] + ") of " + n, () -> busy(n), 0,
                    x -> x.bestShower(w[0], w[1]));
        }
    }

    private static void levelOfRainAlone() {
        TerraceRain x = new TerraceRain();
        x.rain(0, 15, 5);
        CHECK.refuses("19: only rain waits", x, STATE, () -> x.levelWaitingAt(1));
        x.bringTo(0, 15, 0);
        CHECK.same("19: a level of 0 waits", x.levelWaitingAt(1), 0);
        x.rain(0, 15, 5);
        CHECK.same("19: the level without the rain", x.levelWaitingAt(1), 0);
        x.lookForWater(0, 0);
        CHECK.refuses("19: it was pushed down", x, STATE, () -> x.levelWaitingAt(1));
        CHECK.refuses("19: a single terrace", x, STATE, () -> x.levelWaitingAt(16));
        CHECK.same("19: from there on it waits at 3", x.levelWaitingAt(3), 0);
    }

    private static void newObject() {
        CHECK.refusesAndGoesOn("12: firstOf(32)", TerraceRain::new, INDEX, x -> x.firstOf(32));
        CHECK.refusesAndGoesOn("13: lastOf(0)", TerraceRain::new, INDEX, x -> x.lastOf(0));
        CHECK.refusesAndGoesOn("19: levelWaitingAt(1)", TerraceRain::new, STATE, x -> x.levelWaitingAt(1));
        CHECK.refusesAndGoesOn("20: heightOf(16)", TerraceRain::new, INDEX, x -> x.heightOf(16));
        CHECK.refusesAndGoesOn("28: rain(0, 16, 1)", TerraceRain::new, INDEX, x -> x.rain(0, 16, 1));
        CHECK.refusesAndGoesOn("30: passDays(0)", TerraceRain::new, ARGUMENT, x -> x.passDays(0));
        CHECK.refusesAndGoesOn("34: bestShower(17, 1)", TerraceRain::new, ARGUMENT, x -> x.bestShower(17, 1));
    }
}
