import java.util.Random;

/** All promises at once: made valleys with made calls, beside the Model. The seeds are written down. */
final class ModelTest {
    private static final Check CHECK = new Check();
    private static final int RUNS = 600;

    public static void main(String[] args) {
        int taught = 0;
        for (int seed = 1; seed <= RUNS; seed++) {
            taught += run(seed);
        }
        CHECK.same("valleys taught of " + RUNS + " are many", taught > RUNS / 2, true);
        CHECK.end();
    }

    /** Answers whether the valley was short enough to be taught. */
    private static int run(int seed) {
        Random random = new Random(seed);
        Maker maker = new Maker(random);
        Model model = maker.valley();
        while (maker.text().length() > 1990) {
            model = maker.valley();
        }
        TerraceRain x = new TerraceRain();
        int error = Check.teach(x, maker.text());
        if (error != 0) {
            Syntax syntax = new Syntax(maker.text());
            CHECK.same("seed " + seed + ": error of a made valley", error, syntax.error());
            CHECK.same("seed " + seed + ": errorAt of a made valley", x.errorAt(), syntax.place());
            return 0;
        }
        for (int i = 0; i < 60; i++) {
            String what = "seed " + seed + ", call " + i + ": ";
            call(what, x, model, random);
            CHECK.same(what + "pushes()", x.pushes(), model.pushes);
            CHECK.same(what + "digest()", x.digest(), model.digest());
        }
        return 1;
    }

    private static void call(String what, TerraceRain x, Model model, Random random) {
        int n = model.size();
        int a = random.nextInt(n);
        int b = random.nextInt(n);
        int from = Math.min(a, b);
        int to = random.nextInt(4) == 0 ? n - 1 : Math.max(a, b);
        if (random.nextInt(4) == 0) {
            from = 0;
        }
        int amount = random.nextInt(5) == 0 ? random.nextInt(1999) - 999 : random.nextInt(13) - 6;
        int days = 1 + random.nextInt(random.nextInt(5) == 0 ? 30 : 4);
        int kind = random.nextInt(18);
        if (kind < 9) {
            byHand(kind, what, x, model, from, to, amount);
        } else {
            ahead(kind, what, x, model, from, to, amount, days);
        }
    }

    private static void byHand(int kind, String what, TerraceRain x, Model model, int from, int to, int amount) {
        switch (kind) {
            case 0:
            case 1:
            case 2:
                CHECK.same(what + "rain", x.rain(from, to, amount), model.rain(from, to, amount));
                break;
            case 3:
            case 4:
                CHECK.same(what + "bringTo", x.bringTo(from, to, amount), model.bringTo(from, to, amount));
                break;
            case 5:
                CHECK.same(what + "lookForWater", x.lookForWater(from, to), Model.water(model.look(from, to)));
                break;
            case 6:
                CHECK.same(what + "lookForHighest", x.lookForHighest(from, to), Model.highest(model.look(from, to)));
                break;
            case 7:
                CHECK.same(what + "lookForLowest", x.lookForLowest(from, to), Model.lowest(model.look(from, to)));
                break;
            default:
                int height = model.height(from) + amount % 3;
                CHECK.same(what + "lookForFirst", x.lookForFirst(height), model.lookForFirst(height));
                break;
        }
    }

    private static void ahead(int kind, String what, TerraceRain x, Model model, int from, int to, int amount,
            int days) {
        int pushes = model.pushes;
        switch (kind) {
            case 9:
            case 10:
                CHECK.same(what + "passDays", x.passDays(days), model.passDays(days).pushes - pushes);
                break;
            case 11:
                CHECK.same(what + "openAll", x.openAll(), model.openAll());
                break;
            case 12:
                Model then = new Model(model).passDays(days);
                CHECK.same(what + "waterAfter", x.waterAfter(days), Model.water(then.root.told()));
                CHECK.same(what + "waitingAfter", x.waitingAfter(days), then.waiting());
                break;
            case 13:
                int height = model.height(from) + amount;
                CHECK.same(what + "daysUntil", x.daysUntil(from, height), model.daysUntil(from, height));
                break;
            case 14:
                int shower = amount < 0 ? -amount : amount;
                CHECK.same(what + "bestShower", x.bestShower(to - from + 1, shower),
                        model.bestShower(to - from + 1, shower));
                break;
            case 15:
                Model looked = new Model(model);
                looked.look(from, to);
                CHECK.same(what + "pushesToLook", x.pushesToLook(from, to), looked.pushes - pushes);
                break;
            case 16:
                CHECK.same(what + "waitingOver", x.waitingOver(from), model.waitingOver(from));
                CHECK.same(what + "heightOf", x.heightOf(to), model.height(to));
                break;
            default:
                CHECK.same(what + "meanHeight", x.meanHeight(),
                        (double) Model.water(model.root.told()) / model.size());
                break;
        }
    }
}
