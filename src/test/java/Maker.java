import java.util.ArrayList;
import java.util.List;
import java.util.Random;

/** Makes valleys by the grammar: their text, and beside it the orders for the Model. */
final class Maker {
    private final Random random;
    private final StringBuilder text = new StringBuilder();

    Maker(Random random) {
        this.random = random;
    }

    String text() {
        return text.toString();
    }

    /** Starts a new text. */
    Model valley() {
        text.setLength(0);
        int terraces = 16;
        if (random.nextInt(8) > 0) {
            terraces = 2 + random.nextInt(31);
            token("terraces");
            token(Integer.toString(terraces));
            token(";");
        }
        List<Model.Order> orders = new ArrayList<>();
        int count = random.nextInt(9);
        for (int i = 0; i < count; i++) {
            orders.add(line());
        }
        return new Model(terraces, orders);
    }

    private void token(String token) {
        boolean glues = text.length() > 0 && Character.isLetterOrDigit(text.charAt(text.length() - 1))
                && Character.isLetterOrDigit(token.charAt(0));
        if (glues || random.nextInt(3) == 0) {
            text.append(random.nextInt(6) == 0 ? '\n' : ' ');
        }
        text.append(token);
    }

    private Model.Order line() {
        String word = pick("rain", "level", "look");
        token(word);
        Model.Expression amount = word.equals("look") ? null : sum(0);
        token("from");
        Model.Expression from = sum(0);
        token("to");
        Model.Expression to = sum(0);
        Model.Expression test = null;
        if (random.nextBoolean()) {
            token("when");
            test = test(0);
        }
        token(";");
        return new Model.Order(word, amount, from, to, test);
    }

    private String pick(String... words) {
        return words[random.nextInt(words.length)];
    }

    private boolean goesOn(int depth) {
        return random.nextInt(3 + depth) == 0;
    }

    private Model.Expression test(int depth) {
        Model.Expression left = both(depth);
        while (goesOn(depth)) {
            token("or");
            Model.Expression a = left;
            Model.Expression b = both(depth);
            left = m -> a.value(m) + b.value(m) > 0 ? 1 : 0;
        }
        return left;
    }

    private Model.Expression both(int depth) {
        Model.Expression left = single(depth);
        while (goesOn(depth)) {
            token("and");
            Model.Expression a = left;
            Model.Expression b = single(depth);
            left = m -> a.value(m) * b.value(m);
        }
        return left;
    }

    private Model.Expression single(int depth) {
        int kind = depth < 8 ? random.nextInt(6) : 5;
        if (kind == 0) {
            token("not");
            Model.Expression turned = single(depth + 1);
            return m -> 1 - turned.value(m);
        }
        if (kind == 1) {
            token("[");
            Model.Expression inside = test(depth + 1);
            token("]");
            return inside;
        }
        Model.Expression a = sum(depth);
        String sign = pick("<", ">", "=", "<=", ">=");
        token(sign);
        Model.Expression b = sum(depth);
        return m -> {
            int order = Integer.compare(a.value(m), b.value(m));
            boolean holds = order < 0 ? sign.contains("<") : order > 0 ? sign.contains(">") : sign.contains("=");
            return holds ? 1 : 0;
        };
    }

    private Model.Expression sum(int depth) {
        Model.Expression left = product(depth);
        while (goesOn(depth)) {
            String sign = pick("+", "-");
            token(sign);
            Model.Expression a = left;
            Model.Expression b = product(depth);
            left = m -> (int) (sign.equals("+") ? (long) a.value(m) + b.value(m) : (long) a.value(m) - b.value(m));
        }
        return left;
    }

    private Model.Expression product(int depth) {
        Model.Expression left = value(depth);
        while (goesOn(depth)) {
            String sign = pick("*", "/");
            token(sign);
            Model.Expression a = left;
            Model.Expression b = value(depth);
            left = m -> sign.equals("*") ? (int) ((long) a.value(m) * b.value(m)) : divided(a.value(m), b.value(m));
        }
        return left;
    }

    private static int divided(long left, long right) {
        return right == 0 ? 0 : (int) (left / right);
    }

    private Model.Expression value(int depth) {
        int kind = depth < 8 ? random.nextInt(14) : 4 + random.nextInt(10);
        switch (kind) {
            case 0:
                token("-");
                Model.Expression turned = value(depth + 1);
                return m -> (int) -(long) turned.value(m);
            case 1:
                token("(");
                Model.Expression inside = sum(depth + 1);
                token(")");
                return inside;
            case 2:
                token("height");
                token("(");
                Model.Expression terrace = sum(depth + 1);
                token(")");
                return m -> m.height(Math.floorMod(terrace.value(m), m.size()));
            case 3:
                return lesserOrGreater(depth);
            case 4:
            case 5:
            case 6:
                return reading();
            default:
                int number = random.nextInt(12) == 0 ? random.nextInt(1000000) : random.nextInt(40);
                token(Integer.toString(number));
                return m -> number;
        }
    }

    private Model.Expression lesserOrGreater(int depth) {
        String word = pick("min", "max");
        token(word);
        token("(");
        Model.Expression a = sum(depth + 1);
        token(",");
        Model.Expression b = sum(depth + 1);
        token(")");
        return m -> (a.value(m) < b.value(m)) == word.equals("min") ? a.value(m) : b.value(m);
    }

    private Model.Expression reading() {
        String word = pick("day", "pushes", "water", "highest", "lowest", "waiting");
        token(word);
        switch (word) {
            case "day":
                return m -> m.days;
            case "pushes":
                return m -> m.pushes;
            case "water":
                return m -> (int) Model.water(m.root.told());
            case "highest":
                return m -> Model.highest(m.root.told());
            case "lowest":
                return m -> Model.lowest(m.root.told());
            default:
                return Model::waiting;
        }
    }
}
