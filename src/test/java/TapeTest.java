/** Promises 1 to 3: a new object, feed, trim. */
final class TapeTest {
    private static final Check CHECK = new Check();

    public static void main(String[] args) {
        newObject();
        feed();
        feedKeepsTheBytesInOrder();
        feedUpToTheEnd();
        trim();
        CHECK.end();
    }

    private static void newObject() {
        TerraceRain x = new TerraceRain();
        CHECK.same("1: terraces()", x.terraces(), 16);
        CHECK.same("1: branches()", x.branches(), 31);
        CHECK.same("1: orders()", x.orders(), 0);
        CHECK.same("1: days()", x.days(), 0);
        CHECK.same("1: pushes()", x.pushes(), 0);
        CHECK.same("1: waitingBranches()", x.waitingBranches(), 0);
        CHECK.same("1: errorAt()", x.errorAt(), -1);
        for (int terrace = 0; terrace < 16; terrace++) {
            CHECK.same("1: heightOf(" + terrace + ")", x.heightOf(terrace), 0);
        }
        CHECK.same("1: passDays(30)", x.passDays(30), 0);
        CHECK.same("1: waterToldBy(1)", x.waterToldBy(1), 0);
    }

    private static void feed() {
        TerraceRain x = new TerraceRain();
        CHECK.same("2: feed 1", x.feed(0, 0, 0, 0, 0), 20);
        CHECK.same("2: feed 2", x.feed(-1, 1, 2, 3, 4), 40);
        x.trim(3);
        CHECK.same("2: feed behind 3 bytes", x.feed(1, 2, 3, 4, 5), 23);
        x.teach();
        CHECK.same("2: feed behind teach", x.feed(1, 2, 3, 4, 5), 20);
    }

    /** The highest byte is the first one, the numbers follow one another, bytes are 0 to 255. */
    private static void feedKeepsTheBytesInOrder() {
        TerraceRain x = new TerraceRain();
        // "terraces 7;" and blanks
        x.feed(0x74657272, 0x61636573, 0x20373b20, 0x20202020, 0x20202020);
        CHECK.same("2: teach of 20 bytes", x.teach(), 0);
        CHECK.same("2: terraces of 20 bytes", x.terraces(), 7);
        for (int place = 0; place < 20; place++) {
            int[] five = {0x20202020, 0x20202020, 0x20202020, 0x20202020, 0x20202020};
            int shift = 24 - place % 4 * 8;
            five[place / 4] = five[place / 4] & ~(255 << shift) | 0xA0 << shift;
            x.feed(five[0], five[1], five[2], five[3], five[4]);
            CHECK.same("2: teach with a wrong byte at " + place, x.teach(), 1);
            CHECK.same("2: errorAt with a wrong byte at " + place, x.errorAt(), place);
        }
    }

    private static void feedUpToTheEnd() {
        TerraceRain x = new TerraceRain();
        int blanks = 0x20202020;
        for (int i = 1; i <= 100; i++) {
            CHECK.same("2: feed " + i, x.feed(blanks, blanks, blanks, blanks, blanks), 20 * i);
        }
        CHECK.refuses("2: feed to 2020", x, IllegalStateException.class, () -> x.feed(1, 1, 1, 1, 1));
        x.trim(1981);
        CHECK.refuses("2: feed to 2001", x, IllegalStateException.class, () -> x.feed(1, 1, 1, 1, 1));
        CHECK.same("2: refused feeds append nothing", x.trim(1981), 1981);
        CHECK.refuses("2: nor leave room", x, IllegalArgumentException.class, () -> x.trim(1982));
        x.trim(1980);
        CHECK.same("2: feed to 2000", x.feed(blanks, blanks, blanks, blanks, 0x20202021), 2000);
        CHECK.same("2: teach of 2000 bytes", x.teach(), 1);
        CHECK.same("2: errorAt of the last byte", x.errorAt(), 1999);
    }

    private static void trim() {
        TerraceRain x = new TerraceRain();
        CHECK.same("3: trim(0) of nothing", x.trim(0), 0);
        CHECK.refuses("3: trim(1) of nothing", x, IllegalArgumentException.class, () -> x.trim(1));
        Check.feed(x, "terraces 123456789; ");
        CHECK.refuses("3: trim(21)", x, IllegalArgumentException.class, () -> x.trim(21));
        CHECK.refuses("3: trim(-1)", x, IllegalArgumentException.class, () -> x.trim(-1));
        CHECK.refuses("3: trim(least)", x, IllegalArgumentException.class, () -> x.trim(Integer.MIN_VALUE));
        CHECK.same("3: trim(20)", x.trim(20), 20);
        CHECK.same("3: trim(11)", x.trim(11), 11);
        CHECK.refuses("3: trim(12) behind it", x, IllegalArgumentException.class, () -> x.trim(12));
        Check.feed(x, ";");
        CHECK.same("3: teach of what is kept", x.teach(), 0);
        CHECK.same("3: terraces of what is kept", x.terraces(), 12);
        CHECK.refuses("3: trim(1) behind teach", x, IllegalArgumentException.class, () -> x.trim(1));
        Check.feed(x, "?");
        CHECK.same("3: trim(0)", x.trim(0), 0);
        CHECK.same("3: teach of nothing kept", x.teach(), 0);
    }
}
