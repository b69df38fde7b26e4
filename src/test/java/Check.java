/** What the tests have in common: counting wrong answers, and feeding texts. */
final class Check {
    /** A call whose answer or exception is looked at. */
    interface Call {
        Object answer();
    }

    private int looked = 0;
    private int wrong = 0;

    void same(String what, Object got, Object due) {
        looked++;
        boolean isSame = got instanceof Number && due instanceof Number && !(got instanceof Double)
                ? ((Number) got).longValue() == ((Number) due).longValue()
                : got.equals(due);
        if (!isSame) {
            wrong++;
            System.out.println(what + " answered " + got + ", due is " + due);
        }
    }

    /** The very class of the exception is due, and the object tells the same as before. */
    void refuses(String what, TerraceRain x, Class<? extends RuntimeException> due, Call call) {
        long before = x.digest();
        int errorBefore = x.errorAt();
        looked++;
        try {
            Object got = call.answer();
            wrong++;
            System.out.println(what + " answered " + got + ", due is " + due.getSimpleName());
        } catch (RuntimeException e) {
            if (e.getClass() != due) {
                wrong++;
                System.out.println(what + " threw " + e + ", due is " + due.getSimpleName());
            }
        }
        same(what + ": digest() behind it", x.digest(), before);
        same(what + ": errorAt() behind it", x.errorAt(), errorBefore);
    }

    void end() {
        System.out.println(looked + " answers looked at, " + wrong + " wrong");
        if (wrong != 0 || looked == 0) {
            System.exit(1);
        }
    }

    /** Appends a text to the tape; its signs are 0 to 255. Answers the length of the tape before. */
    static int feed(TerraceRain x, String text) {
        int length = -1;
        for (int from = 0; from < text.length(); from += 20) {
            int[] five = new int[5];
            for (int i = 0; i < 20; i++) {
                int sign = from + i < text.length() ? text.charAt(from + i) : ' ';
                five[i / 4] = five[i / 4] << 8 | sign;
            }
            length = x.feed(five[0], five[1], five[2], five[3], five[4]);
        }
        int padding = (20 - text.length() % 20) % 20;
        if (padding > 0) {
            x.trim(length - padding);
        }
        return length - padding - text.length();
    }

    static int teach(TerraceRain x, String text) {
        feed(x, text);
        return x.teach();
    }

    static TerraceRain taught(String text) {
        TerraceRain x = new TerraceRain();
        if (teach(x, text) != 0) {
            throw new IllegalStateException("error at " + x.errorAt() + " of: " + text);
        }
        return x;
    }

    static String repeat(String part, int times) {
        StringBuilder all = new StringBuilder();
        for (int i = 0; i < times; i++) {
            all.append(part);
        }
        return all.toString();
    }
}
