import java.util.Random;

/** Promises 4 and 5: made valleys with made mistakes, beside the Syntax. The seeds are written down. */
final class SyntaxTest {
    private static final Check CHECK = new Check();
    private static final int RUNS = 400;
    private static final String[] PIECES = {"(", ")", "[", "]", ";", ",", "+", "-", "*", "/", "<", ">", "=", "<=", ">=",
        " ", "\n", "\t", "terraces", "rain", "level", "look", "from", "to", "when", "day", "pushes", "water", "highest",
        "lowest", "waiting", "height", "not", "and", "or", "min", "max", "5", "123456", "1234567", "x", "abcdefghij",
        "abcdefghijk", "A", "\u00e9", "\u0000", "!", " not ", "-", "(", "[", "((", "not not "};

    public static void main(String[] args) {
        int[] seen = new int[6];
        for (int seed = 1; seed <= RUNS; seed++) {
            Random random = new Random(seed);
            Maker maker = new Maker(random);
            TerraceRain x = new TerraceRain();
            // a text takes at most 102 calls, and an object is used for at most 512
            for (int i = 0; i < 4; i++) {
                maker.valley();
                String text = random.nextInt(12) == 0 ? manyLines(random) : maker.text();
                text = mistaken(text, random);
                text = text.length() > 2000 ? text.substring(0, 2000) : text;
                Syntax syntax = new Syntax(text);
                int error = Check.teach(x, text);
                seen[error]++;
                CHECK.same("seed " + seed + ": teach of " + text, error, syntax.error());
                CHECK.same("seed " + seed + ": errorAt of " + text, x.errorAt(), syntax.place());
            }
        }
        for (int error : new int[] {0, 1, 4, 5}) {
            CHECK.same("error " + error + " was seen often", seen[error] > 10, true);
        }
        CHECK.end();
    }

    private static String manyLines(Random random) {
        int terraces = random.nextInt(40);
        return "terraces " + terraces + ";" + Check.repeat("look from 0 to 1;", 10 + random.nextInt(60));
    }

    private static String mistaken(String text, Random random) {
        StringBuilder mistaken = new StringBuilder(text);
        int mistakes = random.nextInt(3);
        for (int i = 0; i < mistakes; i++) {
            int at = random.nextInt(mistaken.length() + 1);
            int kind = random.nextInt(4);
            if (kind == 0) {
                mistaken.setLength(at);
            } else if (kind == 1) {
                mistaken.delete(at, Math.min(mistaken.length(), at + 1 + random.nextInt(3)));
            } else {
                mistaken.insert(at, PIECES[random.nextInt(PIECES.length)]);
            }
        }
        return mistaken.toString();
    }
}
