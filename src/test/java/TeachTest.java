/** Promises 4 and 5, and the errors of the language: teach, errorAt. */
final class TeachTest {
    private static final Check CHECK = new Check();

    public static void main(String[] args) {
        valleys();
        tokens();
        wrongTokens();
        wrongLines();
        wrongSums();
        wrongTests();
        depth();
        tokenLimit();
        cutShort();
        lateErrors();
        orderOfErrors();
        beginsAnew();
        staysWithAnError();
        CHECK.end();
    }

    private static void error(String text, int due, int place) {
        CHECK.errs(text, due, place);
    }

    private static void good(String text, int terraces, int orders) {
        CHECK.teaches(text, terraces, orders);
    }

    private static void valleys() {
        good("", 16, 0);
        good("  \n ", 16, 0);
        good("terraces 2;", 2, 0);
        good("terraces 32;", 32, 0);
        good("look from 0 to 1;", 16, 1);
        good("terraces 5;rain 1 from 0 to 1;level 2 from 3 to 4;look from 0 to 4;", 5, 3);
        good("rain 1 from 0 to 1 when day < 3;", 16, 1);
        good("rain 1 from 0 to 1 when [day < 3 or not day > 5] and water = 2;", 16, 1);
        good("rain 1 from 0 to 1 when not not 1 <= 2 and not [1 >= 2];", 16, 1);
        good("rain day+pushes-water*highest/lowest from waiting to height(3);", 16, 1);
        good("rain -min(1,2)+(max(3,-4)) from height(-height(1)) to 1;", 16, 1);
    }

    private static void tokens() {
        good("\n terraces\n3 ; look  from 0\nto 1;\n", 3, 1);
        error("terraces3 ;", 1, 0);
        good("rain 5from 0to 1when 1<2;", 16, 1);
        good("rain 5from 0 to 000001;", 16, 1);
        good("rain 999999 from 0 to 1;", 16, 1);
        good("rain 1--1 from 0 to 1 when 1<-1;", 16, 1);
        error("rain 5from0 to 1;", 1, 6);
        error("rain1 from 0 to 1;", 1, 0);
        error("rain 1 from 0 to 1 when 1 < = 2;", 1, 28);
        error("rain 1 from 0 to 1 when 1 = < 2;", 1, 28);
        error("rain 1 from 0 to 1 when 1 =< 2;", 1, 27);
        error("rain 1 from 0 to 1 when 1 <> 2;", 1, 27);
        error("rain 1 2 from 0 to 1;", 1, 7);
    }

    private static void wrongTokens() {
        error("?", 1, 0);
        error("  \t", 1, 2);
        error("\r\n", 1, 0);
        error("terraces 5;\u0000", 1, 11);
        error("terraces 5;\u00ff", 1, 11);
        error("Terraces 5;", 1, 0);
        error("terraces 1234567;", 1, 9);
        error("terraces 0000005;", 1, 9);
        error("rain 5 from 0 to abcdefghijk;", 1, 17);
        error("rain 5 from 0 to abcdefghij;", 1, 17);
        error("rain x from 0 to 1;", 1, 5);
        error("rain days from 0 to 1;", 1, 5);
        error("rainz from 0 to 1;", 1, 0);
        error("rain dayz from 0 to 1;", 1, 5);
        error("rain daya from 0 to 1;", 1, 5);
        error("rain day0 from 0 to 1;", 1, 5);
        error("rain day9 from 0 to 1;", 1, 5);
        error("rain 1{ from 0 to 1;", 1, 6);
        error("rain 1` from 0 to 1;", 1, 6);
        error("rain 1: from 0 to 1;", 1, 6);
        error("rain 1. from 0 to 1;", 1, 6);
        error("rain da from 0 to 1;", 1, 5);
        error("terracess 5;", 1, 0);
        error("look from 0 to 1; name", 1, 18);
        error("rain 4294967301 from 0 to 1;", 1, 5);
    }

    private static void wrongLines() {
        error("terraces", 1, 8);
        error("terraces  ", 1, 10);
        error("terraces ;", 1, 9);
        error("terraces -5;", 1, 9);
        error("terraces 5", 1, 10);
        error("terraces 5 look", 1, 11);
        error("terraces (5);", 1, 9);
        error("terraces 5; terraces 5;", 1, 12);
        error("look from 0 to 1; terraces 5;", 1, 18);
        error(";", 1, 0);
        error("5", 1, 0);
        error("look 5 from 0 to 1;", 1, 5);
        error("rain from 0 to 1;", 1, 5);
        error("level from 0 to 1;", 1, 6);
        error("rain 1 to 0 from 1;", 1, 7);
        error("rain 1 from to 1;", 1, 12);
        error("rain 1 from 0;", 1, 13);
        error("rain 1 from 0 to;", 1, 16);
        error("rain 1 from 0 to 1", 1, 18);
        error("rain 1 from 0 to 1;;", 1, 19);
        error("rain 1 from 0 to 1 when;", 1, 23);
        error("rain 1 from 0 to 1 when 1 < 2", 1, 29);
        error("rain 1 when 1 < 2 from 0 to 1;", 1, 7);
    }

    private static void wrongSums() {
        error("rain + 1 from 0 to 1;", 1, 5);
        error("rain 1 + from 0 to 1;", 1, 9);
        error("rain 1 * + 1 from 0 to 1;", 1, 9);
        error("rain () from 0 to 1;", 1, 6);
        error("rain (1 from 0 to 1;", 1, 8);
        error("rain 1) from 0 to 1;", 1, 6);
        error("rain (1,2) from 0 to 1;", 1, 7);
        error("rain [1] from 0 to 1;", 1, 5);
        error("rain height 3 from 0 to 1;", 1, 12);
        error("rain height(3,4) from 0 to 1;", 1, 13);
        error("rain height() from 0 to 1;", 1, 12);
        error("rain min(3) from 0 to 1;", 1, 10);
        error("rain max(3,4,5) from 0 to 1;", 1, 12);
        error("rain max 3,4 from 0 to 1;", 1, 9);
        error("rain min(3,) from 0 to 1;", 1, 11);
        error("rain max(3 from 0 to 1;", 1, 11);
        error("rain max(3,4 from 0 to 1;", 1, 13);
        error("rain height(3 from 0 to 1;", 1, 14);
        error("rain 1 < 2 from 0 to 1;", 1, 7);
        error("rain not 1 from 0 to 1;", 1, 5);
        error("rain rain from 0 to 1;", 1, 5);
    }

    private static void wrongTests() {
        String line = "look from 0 to 1 when ";
        error(line + "1;", 1, 23);
        error(line + "(1 < 2);", 1, 25);
        error(line + "[1 < 2;", 1, 28);
        error(line + "[1 < 2);", 1, 28);
        error(line + "[1 + 2] < 3;", 1, 28);
        error(line + "1 < 2 < 3;", 1, 28);
        error(line + "1 < 2 and;", 1, 31);
        error(line + "1 < 2 and or 1 < 2;", 1, 32);
        error(line + "or 1 < 2;", 1, 22);
        error(line + "not;", 1, 25);
        error(line + "1 not < 2;", 1, 24);
        error(line + "[];", 1, 23);
        error(line + "1 < 2 + 3];", 1, 31);
        error(line + "1 < 2 when 1 < 2;", 1, 28);
    }

    private static void depth() {
        String tail = " from 0 to 1;";
        good("rain " + Check.repeat("(", 8) + "1" + Check.repeat(")", 8) + tail, 16, 1);
        error("rain " + Check.repeat("(", 9) + "1" + Check.repeat(")", 9) + tail, 1, 13);
        good("rain " + Check.repeat("-", 8) + "1" + tail, 16, 1);
        error("rain " + Check.repeat("-", 9) + "1" + tail, 1, 13);
        good("rain -(-(-(-(1)*-1)))" + tail, 16, 1);
        error("rain -(-(-(-(-1))))" + tail, 1, 13);
        error("rain -(-(-(-((1)))))" + tail, 1, 13);
        good("rain " + Check.repeat("height(", 8) + "1" + Check.repeat(")", 8) + tail, 16, 1);
        error("rain " + Check.repeat("height(", 9) + "1" + Check.repeat(")", 9) + tail, 1, 5 + 9 * 7 - 1);
        good("rain " + Check.repeat("min(1,", 8) + "1" + Check.repeat(")", 8) + tail, 16, 1);
        error("rain " + Check.repeat("max(1,", 9) + "1" + Check.repeat(")", 9) + tail, 1, 5 + 8 * 6 + 3);
        String when = "look from 0 to 1 when ";
        good(when + Check.repeat("[", 8) + "1<2" + Check.repeat("]", 8) + ";", 16, 1);
        error(when + Check.repeat("[", 9) + "1<2" + Check.repeat("]", 9) + ";", 1, 22 + 8);
        good(when + Check.repeat("not ", 8) + "1<2;", 16, 1);
        error(when + Check.repeat("not ", 9) + "1<2;", 1, 22 + 8 * 4);
        good(when + "not[not[not[not[1<2]]]];", 16, 1);
        error(when + "not[not[not[not[(1)<2]]]];", 1, 22 + 16);
        error(when + "not[not[not[not[-1<2]]]];", 1, 22 + 16);
        error(when + "not[not[not[not[1<min(2,3)]]]];", 1, 22 + 21);
        // behind what it turns, a - or not makes nothing deeper
        good("rain " + Check.repeat("-1+", 20) + "-(1)" + tail, 16, 1);
        good(when + Check.repeat("not 1<2 and ", 12) + "[1<2];", 16, 1);
        good(when + "[[[[[[[1<2]]]]]]] and [[[[[[[[1<2]]]]]]]];", 16, 1);
        good("rain 1 from ((((((((1)))))))) to --------1 when not not not not not not not [1<2];", 16, 1);
    }

    private static void tokenLimit() {
        String sum = "terraces 4;rain 1" + Check.repeat("+1", 195);
        good(sum + " from 0 to 1;", 4, 1);
        good(sum + " from 0 to 1; \n ", 4, 1);
        error(sum + " from 0 to 1 ", 1, sum.length() + 13);
        error(sum + " from 0 to 1 ?", 1, sum.length() + 13);
        error(sum + " from 0 to 1; look from 0 to 1;", 1, sum.length() + 14);
        error(sum + " from 0 to 1; ?", 1, sum.length() + 14);
        error(sum + " from 0 to -1;", 1, sum.length() + 13);
        error(sum + " from 0 to 1 when 1 < 2;", 1, sum.length() + 18);
        // 66 lines of 6 tokens are 396 tokens: only the 17th line is an error
        String looks = Check.repeat("look from 0 to 1;", 66);
        error(looks, 4, 16 * 17);
        error(looks + "look from 0 to 1;", 1, looks.length() + 15);
        error(looks + "look from 0", 1, looks.length() + 11);
    }

    /** Behind each token of a line but its last one, neither the end nor another line can stand. */
    private static void cutShort() {
        String[] tokens = ("rain min ( height ( - 1 ) , ( day + 2 ) * water ) - pushes / 3 from 0 to max ( 1 , waiting ) "
                + "when not [ 1 < highest and lowest >= 2 or 3 = 4 ] and 5 <= 6 or 7 > 8 ;").split(" ");
        StringBuilder text = new StringBuilder();
        for (String token : tokens) {
            if (text.length() > 0) {
                error(text + " ", 1, text.length() + 1);
                error(text + "\nlook from 0 to 1;", 1, text.length() + 1);
                error(text + " terraces 5;", 1, text.length() + 1);
            }
            text.append(text.length() > 0 ? " " : "").append(token);
        }
        good(text.toString(), 16, 1);
        good(text + " look from 0 to 1;", 16, 2);
    }

    private static void lateErrors() {
        error("terraces 0;", 5, 9);
        error("terraces 1;", 5, 9);
        error("terraces 33;", 5, 9);
        error("terraces 999999;", 5, 9);
        error(" terraces\n 00 ;", 5, 11);
        good("terraces 000002;", 2, 0);
        String sixteen = Check.repeat("rain 1 from 0 to 1;", 5) + Check.repeat("look from 0 to 1;", 6)
                + Check.repeat("level 1 from 0 to 1;", 5);
        good(sixteen, 16, 16);
        error(sixteen + " look from 0 to 1;", 4, sixteen.length() + 1);
        error(sixteen + "rain 1 from 0 to 1;", 4, sixteen.length());
        error(sixteen + "level 1 from 0 to 1; rain 1 from 0 to 1;", 4, sixteen.length());
    }

    private static void orderOfErrors() {
        String seventeen = Check.repeat("look from 0 to 1;", 17);
        error("terraces 1;" + seventeen, 5, 9);
        error("terraces 2;" + seventeen, 4, 11 + 16 * 17);
        error("terraces 1;" + seventeen + "look", 1, 11 + 17 * 17 + 4);
        error("terraces 99; ?", 1, 13);
        error(seventeen + " 5", 1, 17 * 17 + 1);
    }

    private static void beginsAnew() {
        TerraceRain x = Check.taught("terraces 3; rain 5 from 0 to 2; look from 1 to 1;");
        x.passDays(3);
        CHECK.same("4: teach of nothing", x.teach(), 0);
        CHECK.same("4: digest behind it", x.digest(), new TerraceRain().digest());
        CHECK.same("4: passDays behind it", x.passDays(1), 0);
        CHECK.same("4: heights behind it", x.lookForHighest(0, 15), 0);
        Check.teach(x, "terraces 9; rain 1 from day to day;");
        x.rain(0, 4, 7);
        x.bringTo(0, 3, 5);
        x.bringTo(0, 2, 4);
        x.bringTo(5, 8, 3);
        x.rain(5, 8, 2);
        Check.teach(x, "terraces 9; rain 1 from day to day;");
        TerraceRain y = Check.taught("terraces 9; rain 1 from day to day;");
        CHECK.same("4: digest of the same valley again", x.digest(), y.digest());
        x.passDays(4);
        y.passDays(4);
        CHECK.same("4: digest 4 days later", x.digest(), y.digest());
        CHECK.same("4: waterAfter of the same", x.waterAfter(3), y.waterAfter(3));
        Check.teach(x, "terraces 32; rain 1 from 0 to 30;");
        x.passDays(3);
        x.waterAfter(3);
        Check.teach(x, "terraces 3; rain 2 from 1 to 2;");
        TerraceRain z = Check.taught("terraces 3; rain 2 from 1 to 2;");
        CHECK.same("4: digest of fewer terraces", x.digest(), z.digest());
        CHECK.same("4: waterAfter of fewer terraces", x.waterAfter(2), 8);
        CHECK.same("4: openAll of fewer terraces", x.openAll(), 0);
        x.passDays(2);
        z.passDays(2);
        CHECK.same("4: digest of fewer terraces 2 days later", x.digest(), z.digest());
    }

    private static void staysWithAnError() {
        String valley = "terraces 6; rain day + 1 from 0 to day; look from 2 to 2;";
        TerraceRain x = Check.taught(valley);
        TerraceRain y = Check.taught(valley);
        x.passDays(3);
        y.passDays(3);
        CHECK.same("4: teach of error 1", Check.teach(x, "terraces 4; rain 9 from 0"), 1);
        CHECK.same("5: errorAt", x.errorAt(), 25);
        CHECK.same("4: digest with error 1", x.digest(), y.digest());
        CHECK.same("4: teach of error 5", Check.teach(x, "terraces 40; rain 9 from 0 to 3;"), 5);
        CHECK.same("5: errorAt", x.errorAt(), 9);
        CHECK.same("4: digest with error 5", x.digest(), y.digest());
        CHECK.same("4: teach of error 4", Check.teach(x, Check.repeat("look from 1 to 3;", 17)), 4);
        CHECK.same("5: errorAt", x.errorAt(), 272);
        CHECK.same("4: digest with error 4", x.digest(), y.digest());
        x.passDays(5);
        y.passDays(5);
        CHECK.same("4: digest days behind the errors", x.digest(), y.digest());
        CHECK.same("5: errorAt stays", x.errorAt(), 272);
        CHECK.refuses("4: the tape is empty behind an error", x, IllegalArgumentException.class, () -> x.trim(1));
        CHECK.same("4: teach of the empty tape", x.teach(), 0);
        CHECK.same("5: errorAt behind a good one", x.errorAt(), -1);
    }
}
