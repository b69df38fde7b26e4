import java.util.List;

/** Term 1 of the document and promises 1 to 5: for each sentence that names an edge, a test of its own. */
final class LanguageEdgeTest {
    private static final Check CHECK = new Check();
    private static final String LEAST = "(-32768 * 65536)";
    private static final String GREATEST = "(32768 * 65535 + 32767)";
    private static final String TAIL = " from 0 to 1;";
    private static final String WHEN = "look from 0 to 1 when ";
    private static final String LOOK = "look from 0 to 1;";
    private static final List<String> KEYWORDS = List.of("terraces", "rain", "level", "look", "from", "to", "when",
            "day", "pushes", "water", "highest", "lowest", "waiting", "height", "not", "and", "or", "min", "max");
    private static final List<String> READINGS = List.of("day", "pushes", "water", "highest", "lowest", "waiting");

    public static void main(String[] args) {
        sumsWrapAround();
        differencesWrapAround();
        productsWrapAround();
        turnedAround();
        greatestNumbersDoNotWrap();
        divisionIsCutTowardsZero();
        divisionByZero();
        leastDividedByMinusOne();
        positionsAreCountedFromZero();
        tapeIsEmptyAtFirst();
        tapeIsEmptyBehindTeach();
        tapeHoldsTwoThousandBytes();
        tapeIsShortenedToNothingAndToAll();
        blanksAreTwoBytesAlone();
        blanksAtBothEndsAndBetween();
        blanksThatMustStand();
        longestTokenIsRead();
        bytesThatBeginAValue();
        bytesThatGoOnWithAWord();
        bytesThatGoOnWithANumber();
        bytesThatCompare();
        wordsOfTenBytes();
        numbersOfSixDigits();
        keywordsInTheirPlaces();
        namesHaveNoPlace();
        keywordsByEachLetter();
        repeatedNoneOnceAndOften();
        chainsGoFromLeftToRight();
        CHECK.end();
    }

    private static void sumsWrapAround() {
        CHECK.holds(GREATEST + " + 1 = " + LEAST, true);
        CHECK.holds(GREATEST + " + 1 < 0", true);
        CHECK.holds(GREATEST + " + " + GREATEST + " = -2", true);
        CHECK.holds(LEAST + " + -1 = " + GREATEST, true);
        CHECK.holds(LEAST + " + " + LEAST + " = 0", true);
    }

    private static void differencesWrapAround() {
        CHECK.holds(LEAST + " - 1 = " + GREATEST, true);
        CHECK.holds(LEAST + " - 1 > 0", true);
        CHECK.holds(GREATEST + " - -1 = " + LEAST, true);
        CHECK.holds("0 - " + LEAST + " = " + LEAST, true);
        CHECK.holds(LEAST + " - " + GREATEST + " = 1", true);
    }

    private static void productsWrapAround() {
        CHECK.holds("32768 * 65536 = " + LEAST, true);
        CHECK.holds("65536 * 65536 = 0", true);
        CHECK.holds("65536 * 65537 = 65536", true);
        CHECK.holds(GREATEST + " * 2 = -2", true);
        CHECK.holds(GREATEST + " * " + GREATEST + " = 1", true);
        CHECK.holds(LEAST + " * -1 = " + LEAST, true);
        CHECK.holds(LEAST + " * 2 = 0", true);
    }

    private static void turnedAround() {
        CHECK.holds("-" + LEAST + " = " + LEAST, true);
        CHECK.holds("-" + LEAST + " < 0", true);
        CHECK.holds("-" + GREATEST + " = " + LEAST + " + 1", true);
    }

    /** The last values that do not wrap around. */
    private static void greatestNumbersDoNotWrap() {
        CHECK.holds(GREATEST + " > 0", true);
        CHECK.holds(GREATEST + " - 1 + 1 > 999999", true);
        CHECK.holds(LEAST + " < 0", true);
        CHECK.holds(LEAST + " + 1 - 1 < -999999", true);
        CHECK.holds(LEAST + " < " + GREATEST, true);
        CHECK.holds(GREATEST + " <= " + LEAST, false);
        CHECK.holds("min(" + LEAST + ", " + GREATEST + ") = " + LEAST, true);
        CHECK.holds("max(" + LEAST + ", " + GREATEST + ") = " + GREATEST, true);
    }

    private static void divisionIsCutTowardsZero() {
        CHECK.tells("1 / 2", 0);
        CHECK.tells("-1 / 2", 0);
        CHECK.tells("1 / -2", 0);
        CHECK.tells("-1 / -2", 0);
        CHECK.tells("8 / 3", 2);
        CHECK.tells("-8 / 3", -2);
        CHECK.tells("8 / -3", -2);
        CHECK.tells("-8 / -3", 2);
        CHECK.tells("-9 / 3", -3);
        CHECK.holds(LEAST + " / 2 = -32768 * 32768", true);
        CHECK.holds(LEAST + " / " + LEAST + " = 1", true);
        CHECK.holds(GREATEST + " / " + LEAST + " = 0", true);
        CHECK.holds(LEAST + " / " + GREATEST + " = -1", true);
        CHECK.holds(GREATEST + " / -1 = -" + GREATEST, true);
    }

    private static void divisionByZero() {
        CHECK.tells("0 / 0", 0);
        CHECK.tells("1 / 0", 0);
        CHECK.tells("-1 / 0", 0);
        CHECK.tells("5 / (3 - 3)", 0);
        CHECK.tells("5 / -0", 0);
        CHECK.tells("0 / 5", 0);
        CHECK.tells("5 / 0 + 7", 7);
        CHECK.tells("7 / day", 0);
        CHECK.holds(LEAST + " / 0 = 0", true);
        CHECK.holds(GREATEST + " / 0 = 0", true);
    }

    private static void leastDividedByMinusOne() {
        CHECK.holds(LEAST + " / -1 = " + LEAST, true);
        CHECK.holds(LEAST + " / -1 < 0", true);
        CHECK.holds("(" + LEAST + " + 1) / -1 = " + GREATEST, true);
        CHECK.holds(LEAST + " / 1 = " + LEAST, true);
    }

    private static void positionsAreCountedFromZero() {
        CHECK.errs("?", 1, 0);
        CHECK.errs(" ?", 1, 1);
        CHECK.errs("terraces", 1, 8);
        CHECK.errs("terraces 1;", 5, 9);
    }

    private static void tapeIsEmptyAtFirst() {
        TerraceRain x = new TerraceRain();
        CHECK.refuses("3: trim(1) of a new tape", x, IllegalArgumentException.class, () -> x.trim(1));
        CHECK.same("3: trim(0) of a new tape", x.trim(0), 0);
        CHECK.same("2: feed of a new tape", x.feed(0, 0, 0, 0, 0), 20);
        TerraceRain y = new TerraceRain();
        CHECK.same("4: teach of a new tape", y.teach(), 0);
        CHECK.same("5: errorAt of a new tape", y.errorAt(), -1);
        CHECK.same("4: it is a valley of sixteen", y.terraces(), 16);
    }

    private static void tapeIsEmptyBehindTeach() {
        for (String text : new String[] {"", "terraces 5;", "?", "terraces 1;", Check.repeat(LOOK, 17)}) {
            TerraceRain x = new TerraceRain();
            Check.teach(x, text);
            CHECK.refuses("4: tape behind " + text, x, IllegalArgumentException.class, () -> x.trim(1));
            CHECK.same("4: feed behind " + text, x.feed(0x20202020, 0x20202020, 0x20202020, 0x20202020, 0x20202020),
                    20);
            CHECK.same("4: teach behind " + text, x.teach(), 0);
            CHECK.same("5: errorAt behind " + text, x.errorAt(), -1);
        }
    }

    private static void tapeHoldsTwoThousandBytes() {
        TerraceRain x = new TerraceRain();
        String blanks = Check.repeat(" ", 1988);
        Check.feed(x, "terraces 3" + blanks + " ;");
        CHECK.same("2: 2000 bytes stand", x.trim(2000), 2000);
        for (int size = 2000; size > 1980; size--) {
            x.trim(size);
            CHECK.same("2: feed to " + (size + 20), refusesFeed(x), true);
        }
        CHECK.same("3: trim(1980)", x.trim(1980), 1980);
        CHECK.same("2: feed to 2000", x.feed(0x20202020, 0x20202020, 0x20202020, 0x20202020, 0x2020203b), 2000);
        CHECK.same("2: feed to 2020", refusesFeed(x), true);
        CHECK.same("4: teach of 2000 bytes", x.teach(), 0);
        CHECK.same("4: their terraces", x.terraces(), 3);
        CHECK.errs("terraces 3" + blanks + " ?", 1, 1999);
        CHECK.errs("terraces 3" + blanks + "  ", 1, 2000);
        CHECK.teaches(Check.repeat(" ", 2000), 16, 0);
        CHECK.teaches(Check.repeat("\n", 2000), 16, 0);
        CHECK.errs(Check.repeat("1", 2000), 1, 0);
        CHECK.errs(Check.repeat("a", 2000), 1, 0);
        CHECK.errs("rain " + Check.repeat("1", 1995), 1, 5);
        CHECK.errs("rain " + Check.repeat("a", 1995), 1, 5);
        CHECK.errs("rain " + Check.repeat("(", 1995), 1, 13);
    }

    private static boolean refusesFeed(TerraceRain x) {
        try {
            x.feed(0x3f3f3f3f, 0x3f3f3f3f, 0x3f3f3f3f, 0x3f3f3f3f, 0x3f3f3f3f);
            return false;
        } catch (RuntimeException e) {
            return e.getClass() == IllegalStateException.class;
        }
    }

    private static void tapeIsShortenedToNothingAndToAll() {
        TerraceRain x = new TerraceRain();
        Check.feed(x, "terraces 23; rain 1 ");
        CHECK.same("3: trim to all", x.trim(20), 20);
        CHECK.same("3: trim by one", x.trim(19), 19);
        CHECK.same("3: trim to the valley", x.trim(12), 12);
        CHECK.same("4: teach of what is kept", x.teach(), 0);
        CHECK.same("4: terraces of what is kept", x.terraces(), 23);
        Check.feed(x, "????????????????????");
        CHECK.same("3: trim to one", x.trim(1), 1);
        CHECK.same("3: trim to nothing", x.trim(0), 0);
        CHECK.same("3: trim nothing to nothing", x.trim(0), 0);
        CHECK.same("4: teach of nothing", x.teach(), 0);
        CHECK.same("4: terraces of nothing", x.terraces(), 16);
    }

    /** Of all bytes only 32 and 10 can stand where no token can. */
    private static void blanksAreTwoBytesAlone() {
        for (int sign = 0; sign < 256; sign++) {
            String text = "terraces 2;" + (char) sign;
            if (sign == 32 || sign == 10) {
                CHECK.teaches(text, 2, 0);
            } else {
                CHECK.errs(text, 1, 11);
            }
        }
    }

    private static void blanksAtBothEndsAndBetween() {
        String[] tokens = {"terraces", "3", ";", "rain", "min", "(", "-", "1", ",", "2", ")", "+", "day", "from", "0",
            "to", "1", "when", "not", "[", "1", "<=", "2", "]", ";"};
        for (String blank : new String[] {" ", "\n", "\n \n", "   "}) {
            StringBuilder text = new StringBuilder(blank);
            for (String token : tokens) {
                text.append(token).append(blank);
            }
            CHECK.teaches(text.toString(), 3, 1);
        }
        CHECK.teaches("terraces 3;rain min(-1,2)+day from 0to 1when not[1<=2];", 3, 1);
        CHECK.teaches("look from(0)to(1)when[1<2]and[1<2]or not[1<2];", 16, 1);
    }

    /** Without a blank between them two tokens are read as one. */
    private static void blanksThatMustStand() {
        CHECK.errs("terraces3;", 1, 0);
        CHECK.errs("rain1 from 0 to 1;", 1, 0);
        CHECK.errs("lookfrom 0 to 1;", 1, 0);
        CHECK.errs("look from0 to 1;", 1, 5);
        CHECK.errs("look from 0 to1;", 1, 12);
        CHECK.errs("rain dayfrom 0 to 1;", 1, 5);
        CHECK.errs(WHEN + "not1 < 2;", 1, 22);
        CHECK.errs(WHEN + "1 < 2 and1 < 2;", 1, 28);
        CHECK.errs(WHEN + "1 < 2 or1 < 2;", 1, 28);
        CHECK.errs("rain 1 2" + TAIL, 1, 7);
        CHECK.holds("12 = 1 * 10 + 2", true);
        CHECK.errs(WHEN + "1 < = 2;", 1, 26);
        CHECK.errs(WHEN + "1 > = 2;", 1, 26);
    }

    private static void longestTokenIsRead() {
        CHECK.holds("1<=1", true);
        CHECK.holds("1>=1", true);
        CHECK.holds("1<1", false);
        CHECK.holds("1>1", false);
        CHECK.holds("1=1", true);
        CHECK.holds("1<-1", false);
        CHECK.holds("--1=1", true);
        CHECK.holds("1--1=2", true);
        CHECK.holds("123456=123*1000+456", true);
        CHECK.errs(WHEN + "1==1;", 1, 24);
        CHECK.errs(WHEN + "1<==1;", 1, 25);
        CHECK.errs(WHEN + "1=>1;", 1, 24);
        CHECK.errs(WHEN + "1><1;", 1, 24);
        CHECK.errs("rain 5to 0 from 1;", 1, 6);
        CHECK.errs("rain daypushes" + TAIL, 1, 5);
    }

    private static boolean isLetter(int sign) {
        return sign >= 'a' && sign <= 'z';
    }

    private static boolean isDigit(int sign) {
        return sign >= '0' && sign <= '9';
    }

    private static boolean isIn(String signs, int sign) {
        return signs.indexOf(sign) >= 0;
    }

    private static void bytesThatBeginAValue() {
        for (int sign = 0; sign < 256; sign++) {
            String text = "rain " + (char) sign + TAIL;
            if (isDigit(sign)) {
                CHECK.teaches(text, 16, 1);
            } else {
                CHECK.errs(text, 1, isIn(" \n-(", sign) ? 7 : 5);
            }
        }
    }

    /** A letter or a digit makes a name of it, and all else ends the word. */
    private static void bytesThatGoOnWithAWord() {
        for (int sign = 0; sign < 256; sign++) {
            String text = "rain day" + (char) sign + TAIL;
            if (isIn(" \n", sign)) {
                CHECK.teaches(text, 16, 1);
            } else if (isLetter(sign) || isDigit(sign)) {
                CHECK.errs(text, 1, 5);
            } else {
                CHECK.errs(text, 1, isIn("+-*/", sign) ? 10 : 8);
            }
        }
    }

    private static void bytesThatGoOnWithANumber() {
        for (int sign = 0; sign < 256; sign++) {
            String text = "rain 12" + (char) sign + TAIL;
            if (isIn(" \n", sign) || isDigit(sign)) {
                CHECK.teaches(text, 16, 1);
            } else {
                CHECK.errs(text, 1, isIn("+-*/", sign) ? 9 : 7);
            }
        }
    }

    private static void bytesThatCompare() {
        for (int sign = 0; sign < 256; sign++) {
            String text = WHEN + "1" + (char) sign + "2;";
            if (isIn("<>=", sign)) {
                CHECK.teaches(text, 16, 1);
            } else if (isDigit(sign) || isIn("+-*/", sign)) {
                CHECK.errs(text, 1, 25);
            } else {
                CHECK.errs(text, 1, isIn(" \n", sign) ? 24 : 23);
            }
        }
    }

    /** There is no place for a name: one of 10 bytes and a word of 11 are wrong at the same byte. */
    private static void wordsOfTenBytes() {
        CHECK.errs("rain abcdefghi" + TAIL, 1, 5);
        CHECK.errs("rain abcdefghij" + TAIL, 1, 5);
        CHECK.errs("rain abcdefghijk" + TAIL, 1, 5);
        CHECK.errs("rain a234567890" + TAIL, 1, 5);
        CHECK.errs("rain a2345678901" + TAIL, 1, 5);
        CHECK.errs("terraces12 5;", 1, 0);
        CHECK.errs("terraces123 5;", 1, 0);
        CHECK.errs("rain 1 fromabcdef 0 to 1;", 1, 7);
        CHECK.errs("rain 1 fromabcdefg 0 to 1;", 1, 7);
    }

    private static void numbersOfSixDigits() {
        CHECK.tells("0", 0);
        CHECK.tells("9", 9);
        CHECK.tells("000009", 9);
        CHECK.tells("999999 / 1001", 999);
        CHECK.tells("100000 / 1000", 100);
        CHECK.errs("rain 0000009" + TAIL, 1, 5);
        CHECK.errs("rain 1000000" + TAIL, 1, 5);
        CHECK.errs("rain 9999999999" + TAIL, 1, 5);
        CHECK.errs("rain 4294967297" + TAIL, 1, 5);
        CHECK.errs("rain 1 from 0000000 to 1;", 1, 12);
        CHECK.errs("rain 1 from 0 to 0000000;", 1, 17);
        CHECK.errs(WHEN + "1 < 0000002;", 1, 26);
        CHECK.teaches("terraces 000002;", 2, 0);
        CHECK.errs("terraces 0000002;", 1, 9);
        CHECK.errs("terraces 999999;", 5, 9);
        CHECK.errs("terraces 1000000;", 1, 9);
    }

    private static void keywordsInTheirPlaces() {
        for (String word : KEYWORDS) {
            boolean begins = List.of("terraces", "rain", "level", "look").contains(word);
            CHECK.errs(word, 1, begins ? word.length() : 0);
            boolean isOpen = List.of("height", "min", "max").contains(word);
            String text = "rain " + word + TAIL;
            if (READINGS.contains(word)) {
                CHECK.teaches(text, 16, 1);
            } else {
                CHECK.errs(text, 1, isOpen ? 5 + word.length() + 1 : 5);
            }
            text = WHEN + word + " < 2;";
            if (READINGS.contains(word)) {
                CHECK.teaches(text, 16, 1);
            } else {
                CHECK.errs(text, 1, isOpen || word.equals("not") ? 22 + word.length() + 1 : 22);
            }
            // behind a whole sum
            CHECK.errs("rain 1 " + word + ";", 1, word.equals("from") ? 11 : 7);
        }
    }

    private static void namesHaveNoPlace() {
        for (String word : KEYWORDS) {
            CHECK.errs("rain " + word + "x" + TAIL, 1, 5);
            CHECK.errs("rain x" + word + TAIL, 1, 5);
            CHECK.errs(word + "0", 1, 0);
            String shorter = word.substring(0, word.length() - 1);
            CHECK.errs("rain " + shorter + TAIL, 1, 5);
            CHECK.errs("rain " + word.toUpperCase() + TAIL, 1, 5);
        }
    }

    /** A word is a keyword only if each of its letters is the right one. */
    private static void keywordsByEachLetter() {
        for (String word : KEYWORDS) {
            for (int at = 0; at < word.length(); at++) {
                String other = word.substring(0, at) + "z" + word.substring(at + 1);
                CHECK.errs(other + " 5;", 1, 0);
                CHECK.errs("rain " + other + TAIL, 1, 5);
                CHECK.errs(WHEN + other + " 1 < 2;", 1, 22);
                CHECK.errs("look " + other + " 0 to 1;", 1, 5);
                CHECK.errs("look from 0 " + other + " 1;", 1, 12);
                CHECK.errs("look from 0 to 1 " + other + " 1 < 2;", 1, 17);
                CHECK.errs(WHEN + "1 < 2 " + other + " 1 < 2;", 1, 28);
            }
        }
    }

    private static void repeatedNoneOnceAndOften() {
        CHECK.teaches("", 16, 0);
        CHECK.teaches("terraces 7;", 7, 0);
        CHECK.errs("terraces 7; terraces 7;", 1, 12);
        CHECK.teaches(LOOK, 16, 1);
        CHECK.teaches("look from 0 to 1 when 1<2;", 16, 1);
        CHECK.errs("look from 0 to 1 when 1<2 when 1<2;", 1, 26);
        CHECK.teaches("look from 0 to 1 when 1<2 or 1<2;", 16, 1);
        CHECK.teaches("look from 0 to 1 when 1<2 or 1<2 or 1<2;", 16, 1);
        CHECK.teaches("look from 0 to 1 when 1<2 and 1<2 and 1<2;", 16, 1);
        CHECK.teaches("look from 0+1-1+1 to 1*1/1*1;", 16, 1);
    }

    private static void chainsGoFromLeftToRight() {
        CHECK.tells("9 - 5 + 2", 6);
        CHECK.tells("9 - (5 + 2)", 2);
        CHECK.tells("9 / 2 * 2", 8);
        CHECK.tells("9 * 2 / 4", 4);
        CHECK.tells("2 + 3 * 4 - 6 / 4", 13);
        CHECK.tells("-2 - 3", -5);
        CHECK.tells("-(2 - 3)", 1);
        CHECK.holds("1 = 1 or 1 = 2 and 1 = 2", true);
        CHECK.holds("1 = 2 and 1 = 2 or 1 = 1", true);
        CHECK.holds("not 1 = 1 and 1 = 2 or 1 = 1", true);
        CHECK.holds("not 1 = 2 and 1 = 1", true);
        CHECK.holds("not 1 = 1 or not 1 = 2", true);
    }
}
