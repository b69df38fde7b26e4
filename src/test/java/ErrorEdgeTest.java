/** Term 1 and promises 4 and 5, its edges of depth, of tokens and lines, and of the errors 1, 4 and 5. */
final class ErrorEdgeTest {
    private static final Check CHECK = new Check();
    private static final String TAIL = " from 0 to 1;";
    private static final String WHEN = "look from 0 to 1 when ";
    private static final String LOOK = "look from 0 to 1;";
    /** Three tokens, and one for each byte of what follows. */
    private static final String LONG_SUM = "terraces 4;rain ";

    public static void main(String[] args) {
        sumsOfDepthEight();
        testsOfDepthEight();
        allKindsOfDepthTogether();
        depthOfEachSumOfALine();
        mostValuesAtOnce();
        depthEndsBehindABracket();
        depthEndsBehindWhatIsTurned();
        depthOfBothSumsOfMin();
        errorOneIsTheFirstWrongToken();
        endOfTheTape();
        fourHundredTokens();
        tokenFourHundredAndOne();
        errorOneGoesFirst();
        sixteenLines();
        seventeenLines();
        terracesFromTwoToThirtyTwo();
        leftErrorGoesFirst();
        noError();
        errorOfTheLatestTeach();
        allStaysWithAnError();
        allBeginsAnew();
        CHECK.end();
    }

    private static String nested(String opening, int times, String inside, String closing) {
        return Check.repeat(opening, times) + inside + Check.repeat(closing, times);
    }

    /** The ninth is wrong, at the byte that would make it so deep. */
    private static void sumsOfDepthEight() {
        String[][] kinds = {{"(", "1", ")"}, {"-", "1", ""}, {"height(", "1", ")"}, {"min(1,", "1", ")"},
            {"max(1,", "1", ")"}, {"min(", "1", ",2)"}, {"max(", "1", ",2)"}, {"1+(", "1", ")"}, {"2*(", "1", ")"}};
        for (String[] k : kinds) {
            int deeper = Math.max(k[0].indexOf('('), k[0].indexOf('-'));
            for (int depth = 1; depth <= 8; depth++) {
                CHECK.teaches("rain " + nested(k[0], depth, k[1], k[2]) + TAIL, 16, 1);
            }
            for (int depth = 9; depth <= 11; depth++) {
                CHECK.errs("rain " + nested(k[0], depth, k[1], k[2]) + TAIL, 1, 5 + 8 * k[0].length() + deeper);
            }
        }
        CHECK.tells(nested("(", 8, "7", ")"), 7);
        CHECK.tells(nested("-", 8, "7", ""), 7);
        CHECK.tells(nested("-", 7, "7", ""), -7);
        CHECK.tells(nested("max(1+2*", 8, "7", ",3)"), 999);
        CHECK.tells(nested("min(1+0*", 8, "7", ",3)"), 1);
    }

    private static void testsOfDepthEight() {
        for (int depth = 1; depth <= 8; depth++) {
            CHECK.teaches(WHEN + nested("[", depth, "1<2", "]") + ";", 16, 1);
            CHECK.teaches(WHEN + nested("not ", depth, "1<2", "") + ";", 16, 1);
        }
        for (int depth = 9; depth <= 11; depth++) {
            CHECK.errs(WHEN + nested("[", depth, "1<2", "]") + ";", 1, 22 + 8);
            CHECK.errs(WHEN + nested("not ", depth, "1<2", "") + ";", 1, 22 + 8 * 4);
        }
        CHECK.holds(nested("not ", 8, "1<2", ""), true);
        CHECK.holds(nested("not ", 7, "1<2", ""), false);
        CHECK.holds(nested("[", 8, "1<2", "]"), true);
        CHECK.holds(nested("[1<2 and 2<1 or ", 8, "1<2", "]"), true);
    }

    /** However the eight are made up: k of one kind around 8 - k of another. */
    private static void allKindsOfDepthTogether() {
        for (int k = 0; k <= 8; k++) {
            String sum = nested("(", k, nested("-", 8 - k, "1", ""), ")");
            CHECK.teaches("rain " + sum + TAIL, 16, 1);
            CHECK.errs("rain " + nested("(", k, nested("-", 9 - k, "1", ""), ")") + TAIL, 1, 13);
            String test = nested("[", k, nested("not ", 8 - k, "1<2", ""), "]");
            CHECK.teaches(WHEN + test + ";", 16, 1);
            CHECK.errs(WHEN + nested("[", k, nested("not ", 8 - k, "(1)<2", ""), "]") + ";", 1,
                    22 + k + (8 - k) * 4);
            String inTest = nested("[", k, nested("(", 8 - k, "1", ")") + "<2", "]");
            CHECK.teaches(WHEN + inTest + ";", 16, 1);
            CHECK.errs(WHEN + nested("[", k, "2>" + nested("(", 9 - k, "1", ")"), "]") + ";", 1, 22 + 8 + 2);
        }
        CHECK.teaches("rain height(-min(max((1),-(-(2))),3))" + TAIL, 16, 1);
        CHECK.errs(WHEN + "not[not[height(min(1,max(1,-(-1))))<2]];", 1, 22 + 28);
    }

    private static void depthOfEachSumOfALine() {
        String eight = nested("(", 8, "1", ")");
        String nine = nested("(", 9, "1", ")");
        CHECK.teaches("rain " + eight + TAIL, 16, 1);
        CHECK.teaches("level " + eight + TAIL, 16, 1);
        CHECK.teaches("look from " + eight + " to 1;", 16, 1);
        CHECK.teaches("look from 0 to " + eight + ";", 16, 1);
        CHECK.teaches(WHEN + eight + " < 2;", 16, 1);
        CHECK.teaches(WHEN + "2 < " + eight + ";", 16, 1);
        CHECK.errs("rain " + nine + TAIL, 1, 5 + 8);
        CHECK.errs("level " + nine + TAIL, 1, 6 + 8);
        CHECK.errs("look from " + nine + " to 1;", 1, 10 + 8);
        CHECK.errs("look from 0 to " + nine + ";", 1, 15 + 8);
        CHECK.errs(WHEN + nine + " < 2;", 1, 22 + 8);
        CHECK.errs(WHEN + "2 < " + nine + ";", 1, 26 + 8);
    }

    /** As many unfinished sums and tests as eight levels can hold, and all of them tell. */
    private static void mostValuesAtOnce() {
        String sum = nested("1 + 2 * min(99999, ", 8, "1 + 2 * 3", ")");
        CHECK.tells(sum + " - 1900", 147);
        TerraceRain x = Check.taught("terraces 9; rain " + sum + " - 2040 from " + sum + " - 2046 to " + sum
                + " - 2044 when 1 = 2 or 1 = 1 and 0 + 2 * 1000 < " + sum + ";");
        x.passDays(1);
        CHECK.same("30: most values at once", Check.heights(x), "0 7 7 7 0 0 0 0 0");
        String test = nested("1 = 2 or 1 = 1 and [", 8, "1 = 2 or 1 = 1 and 1 + 2 * 3 = 7", "]");
        CHECK.holds(test, true);
        CHECK.holds(test.replace("= 7", "= 8"), false);
    }

    private static void depthEndsBehindABracket() {
        String eight = nested("(", 8, "1", ")");
        CHECK.teaches("rain " + eight + "+" + eight + "*" + eight + " from " + eight + " to " + eight + ";", 16, 1);
        CHECK.teaches(WHEN + nested("[", 8, "1<2", "]") + " and " + nested("[", 8, "1<2", "]") + ";", 16, 1);
        CHECK.teaches("look from " + eight + " to 1; look from " + eight + " to 1;", 16, 2);
        CHECK.errs("rain " + eight + "+(" + eight + ")" + TAIL, 1, 5 + 17 + 1 + 8);
    }

    private static void depthEndsBehindWhatIsTurned() {
        String eight = nested("(", 8, "1", ")");
        CHECK.teaches("rain -1+" + eight + TAIL, 16, 1);
        CHECK.teaches("rain -1*" + eight + TAIL, 16, 1);
        CHECK.errs("rain -" + eight + TAIL, 1, 5 + 8);
        // between two values it is not in front of one
        CHECK.teaches("rain 1-" + eight + TAIL, 16, 1);
        CHECK.teaches(WHEN + "not 1<2 and " + nested("[", 8, "1<2", "]") + ";", 16, 1);
        CHECK.teaches(WHEN + "not 1<2 or " + eight + "<2;", 16, 1);
        CHECK.errs(WHEN + "not 1<" + eight + ";", 1, 22 + 6 + 7);
        CHECK.errs(WHEN + "not " + eight + "<1;", 1, 22 + 4 + 7);
    }

    private static void depthOfBothSumsOfMin() {
        String seven = nested("(", 7, "1", ")");
        CHECK.teaches("rain min(" + seven + "," + seven + ")" + TAIL, 16, 1);
        CHECK.errs("rain min((" + seven + ")," + seven + ")" + TAIL, 1, 5 + 4 + 7);
        CHECK.errs("rain min(" + seven + ",(" + seven + "))" + TAIL, 1, 5 + 4 + 15 + 1 + 7);
    }

    /** The tokens in front of it are the beginning of a valley, whatever comes behind it. */
    private static void errorOneIsTheFirstWrongToken() {
        CHECK.errs("rain 1 from from 0 to 1;", 1, 12);
        CHECK.errs("rain 1 from ] ? 1234567", 1, 12);
        CHECK.errs("rain 1 from 1234567 ]", 1, 12);
        CHECK.errs("rain 1 from ? ]", 1, 12);
        CHECK.errs("rain 1 from \u0080", 1, 12);
        CHECK.errs("rain 1 from \u00ff", 1, 12);
        CHECK.errs("rain 1 from \u0000", 1, 12);
        CHECK.errs("rain 1 from 0 to 1 ?", 1, 19);
    }

    private static void endOfTheTape() {
        for (int blanks = 0; blanks < 22; blanks++) {
            String end = Check.repeat(" ", blanks);
            CHECK.errs("rain" + end, 1, 4 + blanks);
            CHECK.errs("terraces 3" + end, 1, 10 + blanks);
            CHECK.errs("look from 0 to 1" + end, 1, 16 + blanks);
            CHECK.teaches(end, 16, 0);
            CHECK.teaches("terraces 3;" + end, 3, 0);
        }
        CHECK.errs("rain" + Check.repeat("\n", 1996), 1, 2000);
    }

    /** 400 tokens: three, "rain", 196 numbers with 195 signs, and five of the tail. */
    private static String fourHundred() {
        return LONG_SUM + "1" + Check.repeat("+1", 195) + TAIL;
    }

    private static void fourHundredTokens() {
        CHECK.teaches(fourHundred(), 4, 1);
        String full = fourHundred() + Check.repeat(" ", 2000 - fourHundred().length());
        CHECK.same("2: a full tape", full.length(), 2000);
        CHECK.teaches(full, 4, 1);
        TerraceRain x = Check.taught(fourHundred());
        x.passDays(1);
        CHECK.same("30: 196 ones added", Check.heights(x), "196 196 0 0");
        CHECK.teaches(LONG_SUM + "1" + Check.repeat("+1", 194) + TAIL, 4, 1);
        // the end of the tape is not counted: behind 400 tokens it is wrong at its length
        CHECK.errs(LONG_SUM + "1" + Check.repeat("+1", 195) + " from 0 to -1", 1, fourHundred().length());
        CHECK.errs(LONG_SUM + "1" + Check.repeat("+1", 195) + " from 0 to -1 ", 1, fourHundred().length() + 1);
    }

    private static void tokenFourHundredAndOne() {
        String text = fourHundred();
        for (String more : new String[] {"look", ";", "0", "?", "1234567", "abc", "\u0000"}) {
            CHECK.errs(text + more, 1, text.length());
            CHECK.errs(text + " \n" + more + " ?", 1, text.length() + 2);
        }
        // valleys that would be good: the ; at their end is the 401st, or the 1 in front of it
        CHECK.errs(LONG_SUM + "-1" + Check.repeat("+1", 195) + TAIL, 1, text.length());
        CHECK.errs(LONG_SUM + "1" + Check.repeat("+1", 196) + TAIL, 1, text.length());
        CHECK.errs(text + Check.repeat(" ", 1999 - text.length()) + "?", 1, 1999);
        // one that is wrong before it goes first
        CHECK.errs("terraces 4;rain ;" + text, 1, 16);
    }

    private static void errorOneGoesFirst() {
        CHECK.errs("terraces 1; ?", 1, 12);
        CHECK.errs("terraces 33; look", 1, 17);
        CHECK.errs(Check.repeat(LOOK, 17) + "?", 1, 17 * 17);
        CHECK.errs("terraces 0;" + Check.repeat(LOOK, 17) + "look", 1, 11 + 17 * 17 + 4);
        CHECK.errs("terraces 1", 1, 10);
        CHECK.errs("terraces 1,", 1, 10);
    }

    private static void sixteenLines() {
        for (String line : new String[] {LOOK, "rain 1 from 0 to 1;", "level 1 from 0 to 1;"}) {
            for (int lines = 15; lines <= 16; lines++) {
                CHECK.teaches(Check.repeat(line, lines), 16, lines);
                CHECK.teaches("terraces 8;" + Check.repeat(line, lines), 8, lines);
            }
        }
        TerraceRain x = Check.taught(Check.repeat("rain 1 from 0 to 1;", 16));
        x.passDays(1);
        CHECK.same("30: all sixteen are done", x.heightOf(0), 16);
    }

    private static void seventeenLines() {
        String[] lines = {"look from 0 to 1 ;  ", "rain 1 from 0 to 1; ", "level 1 from 0 to 1;"};
        for (String line : lines) {
            for (String last : lines) {
                CHECK.errs(Check.repeat(line, 16) + last, 4, 320);
                CHECK.errs(Check.repeat(line, 16) + last + line, 4, 320);
            }
        }
        // these three together: 5 and 6 and 5 are sixteen
        String three = Check.repeat(lines[0], 5) + Check.repeat(lines[1], 6) + Check.repeat(lines[2], 5);
        CHECK.teaches(three, 16, 16);
        CHECK.errs(three + "\n" + lines[0], 4, 321);
        CHECK.errs("terraces 32;" + three + lines[1], 4, 332);
        CHECK.errs(Check.repeat(LOOK, 66), 4, 16 * 17);
    }

    private static void terracesFromTwoToThirtyTwo() {
        for (int n = 0; n <= 70; n++) {
            if (n < 2 || n > 32) {
                CHECK.errs("terraces " + n + ";", 5, 9);
                CHECK.errs("\n\nterraces  " + n + " ; " + LOOK, 5, 12);
            } else {
                CHECK.teaches("terraces " + n + ";", n, 0);
                CHECK.teaches("terraces " + n + ";" + LOOK, n, 1);
            }
        }
        CHECK.errs("terraces 999999;", 5, 9);
        CHECK.errs("terraces 65538;", 5, 9);
        CHECK.teaches(LOOK, 16, 1);
        CHECK.teaches("", 16, 0);
    }

    private static void leftErrorGoesFirst() {
        CHECK.errs("terraces 1;" + Check.repeat(LOOK, 17), 5, 9);
        CHECK.errs("terraces 33;" + Check.repeat(LOOK, 17), 5, 9);
        CHECK.errs("terraces 32;" + Check.repeat(LOOK, 17), 4, 12 + 16 * 17);
    }

    private static void noError() {
        TerraceRain x = new TerraceRain();
        CHECK.same("5: errorAt without a teach", x.errorAt(), -1);
        CHECK.same("4: teach without an error", Check.teach(x, "terraces 2;"), 0);
        CHECK.same("5: errorAt without an error", x.errorAt(), -1);
    }

    private static void errorOfTheLatestTeach() {
        TerraceRain x = new TerraceRain();
        CHECK.same("4: error 5", Check.teach(x, "terraces 1;"), 5);
        CHECK.same("5: error 5", x.errorAt(), 9);
        Check.feed(x, "terraces 2; ?");
        CHECK.same("5: the latest teach, not the tape", x.errorAt(), 9);
        CHECK.same("4: error 1", x.teach(), 1);
        CHECK.same("5: error 1", x.errorAt(), 12);
        CHECK.same("4: error 1 at once", Check.teach(x, ";"), 1);
        CHECK.same("5: error 1 at once", x.errorAt(), 0);
        x.passDays(1);
        x.rain(0, 1, 1);
        CHECK.same("5: it stays", x.errorAt(), 0);
        CHECK.same("4: no error", x.teach(), 0);
        CHECK.same("5: no error", x.errorAt(), -1);
    }

    private static TerraceRain busy() {
        TerraceRain x = Check.taught("terraces 6; rain day + 1 from 0 to day; level 3 from 2 to 5 when day = 4;");
        x.passDays(3);
        x.rain(0, 5, 2);
        x.bringTo(0, 2, -4);
        x.rain(0, 2, 1);
        return x;
    }

    private static void allStaysWithAnError() {
        String orders = "terraces 9; rain 500 from 0 to 8;";
        for (String wrong : new String[] {"?", orders + "look", "terraces 40;" + orders.substring(11),
            orders + Check.repeat(LOOK, 16)}) {
            TerraceRain x = busy();
            TerraceRain twin = busy();
            CHECK.same("4: teach of " + wrong + " has an error", Check.teach(x, wrong) != 0, true);
            CHECK.same("4: digest behind " + wrong, x.digest(), twin.digest());
            CHECK.same("4: orders behind " + wrong, x.orders(), 2);
            CHECK.same("4: heights behind " + wrong, Check.heights(x), Check.heights(twin));
            CHECK.same("4: waterAfter behind " + wrong, x.waterAfter(4), twin.waterAfter(4));
            CHECK.same("4: passDays behind " + wrong, x.passDays(4), twin.passDays(4));
            CHECK.same("4: digest days behind " + wrong, x.digest(), twin.digest());
            CHECK.refuses("4: tape behind " + wrong, x, IllegalArgumentException.class, () -> x.trim(1));
        }
    }

    private static void allBeginsAnew() {
        for (int n : new int[] {2, 6, 32}) {
            TerraceRain x = busy();
            String valley = "terraces " + n + "; rain 2 from 0 to 1; look from 1 to 1;";
            CHECK.same("4: teach anew", Check.teach(x, valley), 0);
            TerraceRain y = Check.taught(valley);
            CHECK.same("4: days() anew", x.days(), 0);
            CHECK.same("4: pushes() anew", x.pushes(), 0);
            CHECK.same("4: waitingBranches() anew", x.waitingBranches(), 0);
            CHECK.same("4: orders() anew", x.orders(), 2);
            CHECK.same("4: waterToldBy(1) anew", x.waterToldBy(1), 0);
            CHECK.goesOnAlike("4: teach of " + n + " terraces", x, y);
        }
        TerraceRain x = busy();
        CHECK.same("4: teach of the empty tape", x.teach(), 0);
        CHECK.goesOnAlike("4: teach of the empty tape", x, new TerraceRain());
    }
}
