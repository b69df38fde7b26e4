/** What the tests have in common: counting wrong answers, and feeding texts. */
final class Check {
    /** A call whose answer or exception is looked at. */
    interface Call {
        Object answer();
    }

    /** A call on an object that is handed to it. */
    interface CallOn {
        Object answer(TerraceRain x);
    }

    /** Makes an object, each time by the same calls. */
    interface Start {
        TerraceRain made();
    }

    private int looked = 0;
    private int wrong = 0;

    void same(String what, Object got, Object due) {
        looked++;
        boolean isSame = got instanceof Number && due instanceof Number && !(got instanceof Double)
                ? ((Number) got).longValue() == ((Number) due).longValue()
                : got.equals(due);
        if (!isSame) {
            wrong++;
            System.out.println(what + " answered " + got + ", due is " + due);
        }
    }

    /** The very class of the exception is due, and the object tells the same as before. */
    void refuses(String what, TerraceRain x, Class<? extends RuntimeException> due, Call call) {
        long before = x.digest();
        int errorBefore = x.errorAt();
        looked++;
        try {
            Object got = call.answer();
            wrong++;
            System.out.println(what + " answered " + got + ", due is " + due.getSimpleName());
        } catch (RuntimeException e) {
            if (e.getClass() != due) {
                wrong++;
                System.out.println(what + " threw " + e + ", due is " + due.getSimpleName());
            }
        }
        same(what + ": digest() behind it", x.digest(), before);
        same(what + ": errorAt() behind it", x.errorAt(), errorBefore);
    }

    /** Refused, and the object goes on like a twin that was never asked. */
    void refusesAndGoesOn(String what, Start start, Class<? extends RuntimeException> due, CallOn call) {
        TerraceRain x = start.made();
        refuses(what, x, due, () -> call.answer(x));
        goesOnAlike(what, x, start.made());
    }

    /** Answered, and the object goes on like a twin that was never asked. */
    void answersAndGoesOn(String what, Start start, Object due, CallOn call) {
        TerraceRain x = start.made();
        same(what, call.answer(x), due);
        goesOnAlike(what, x, start.made());
    }

    /** Both stand alike, and bring the same with their orders, and with their tapes. */
    void goesOnAlike(String what, TerraceRain x, TerraceRain twin) {
        String behind = what + ", and behind it ";
        same(behind + "errorAt()", x.errorAt(), twin.errorAt());
        same(behind + "digest()", x.digest(), twin.digest());
        same(behind + "waterAfter(5)", x.waterAfter(5), twin.waterAfter(5));
        same(behind + "passDays(3)", x.passDays(3), twin.passDays(3));
        same(behind + "digest() 3 days later", x.digest(), twin.digest());
        same(behind + "teach()", x.teach(), twin.teach());
        same(behind + "errorAt() taught", x.errorAt(), twin.errorAt());
        same(behind + "passDays(2) taught", x.passDays(2), twin.passDays(2));
        same(behind + "digest() taught", x.digest(), twin.digest());
    }

    /** What teach() and errorAt() answer to a text with an error. */
    void errs(String text, int due, int place) {
        TerraceRain x = new TerraceRain();
        same("4: teach of " + text, teach(x, text), due);
        same("5: errorAt of " + text, x.errorAt(), place);
    }

    /** What they answer to a text without one, and what stands then. */
    void teaches(String text, int terraces, int orders) {
        TerraceRain x = new TerraceRain();
        same("4: teach of " + text, teach(x, text), 0);
        same("5: errorAt of " + text, x.errorAt(), -1);
        same("4: terraces of " + text, x.terraces(), terraces);
        same("4: orders of " + text, x.orders(), orders);
    }

    /** A sum tells so much; it is held at -999 and 999. */
    void tells(String sum, int due) {
        TerraceRain x = taught("terraces 2; level " + sum + " from 0 to 0;");
        x.passDays(1);
        same("30: " + sum, x.heightOf(0), due);
    }

    /** A test holds, or does not. */
    void holds(String test, boolean due) {
        TerraceRain x = taught("terraces 2; rain 1 from 0 to 0 when " + test + ";");
        x.passDays(1);
        same("30: " + test, x.heightOf(0), due ? 1 : 0);
    }

    /** The heights of all terraces, without opening. */
    static String heights(TerraceRain x) {
        StringBuilder all = new StringBuilder();
        for (int terrace = 0; terrace < x.terraces(); terrace++) {
            all.append(terrace > 0 ? " " : "").append(x.heightOf(terrace));
        }
        return all.toString();
    }

    void end() {
        System.out.println(looked + " answers looked at, " + wrong + " wrong");
        if (wrong != 0 || looked == 0) {
            System.exit(1);
        }
    }

    /** Appends a text to the tape, as README.md shows it; its signs are 0 to 255. */
    static void feed(TerraceRain valley, String text) {
        int length = 0;
        for (int from = 0; from < text.length(); from += 20) {
            int[] five = new int[5];
            for (int i = 0; i < 20; i++) {
                int sign = from + i < text.length() ? text.charAt(from + i) : ' ';
                five[i / 4] = five[i / 4] << 8 | sign;
            }
            length = valley.feed(five[0], five[1], five[2], five[3], five[4]);
        }
        if (text.length() % 20 != 0) {
            valley.trim(length - 20 + text.length() % 20);
        }
    }

    static int teach(TerraceRain x, String text) {
        feed(x, text);
        return x.teach();
    }

    static TerraceRain taught(String text) {
        TerraceRain x = new TerraceRain();
        if (teach(x, text) != 0) {
            throw new IllegalStateException("error at " + x.errorAt() + " of: " + text);
        }
        return x;
    }

    static String repeat(String part, int times) {
        StringBuilder all = new StringBuilder();
        for (int i = 0; i < times; i++) {
            all.append(part);
        }
        return all.toString();
    }
}
