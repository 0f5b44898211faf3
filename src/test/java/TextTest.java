/** Promises 9 (feed), 10 (end), 11 (text), 12 (fault). */
public final class TextTest {
    private static final Check CHECK = new Check();

    public static void main(String[] args) {
        feeds();
        ends();
        emptyAndUnknown();
        lawTells();
        conditions();
        opened();
        lawFaults();
        postFaults();
        roundAndStreetFaults();
        oddBytes();
        longTexts();
        manyTexts();
        manyLines();
        staysAsItWas();
        CHECK.end();
    }

    private static void feeds() {
        KindPostman x = new KindPostman();
        for (int i = 1; i <= 20; i++) {
            CHECK.due("feed " + i, x.feed(538976288, 538976288, 538976288, 538976288, 538976288), 20 * i);
        }
        CHECK.due("no more than 400", x.feed(0, 0, 0, 0, 0), -1);
        CHECK.due("blanks alone", x.text(0), 0);
        CHECK.due("the tape is empty then", x.feed(0, 0, 0, 0, 0), 20);
        x.end(0);
        x.door(0, 0, 0);
        CHECK.due("the highest byte first", x.feed(0x77616c6b, 0x20303b77, 0x616c6b20, 0x303b2020, 0x20202020), 20);
        CHECK.due("walk 0;walk 0;", x.text(2), 2);
        x.feed(0x77616c6b, 0x20303b20, 0x20202020, 0x20202020, 0x20202080);
        CHECK.due("a byte above 127", x.text(2), -1);
        CHECK.due("its place", x.fault(1), 19);
    }

    private static void ends() {
        KindPostman x = new KindPostman();
        CHECK.due("end(0) of none", x.end(0), true);
        CHECK.due("end(1) of none", x.end(1), false);
        x.feed(0, 0, 0, 0, 0);
        CHECK.due("end(21)", x.end(21), false);
        CHECK.due("end(-1)", x.end(-1), false);
        CHECK.due("end lowest", x.end(Integer.MIN_VALUE), false);
        CHECK.due("end(20)", x.end(20), true);
        CHECK.due("end(3)", x.end(3), true);
        CHECK.due("end(4)", x.end(4), false);
        CHECK.due("feed behind three", x.feed(0, 0, 0, 0, 0), 23);
        for (int i = 0; i < 18; i++) {
            x.feed(0, 0, 0, 0, 0);
        }
        CHECK.due("383 would be 403", x.feed(0, 0, 0, 0, 0), -1);
        x.end(381);
        CHECK.due("381 would be 401", x.feed(0, 0, 0, 0, 0), -1);
        x.end(380);
        CHECK.due("380 will be 400", x.feed(0, 0, 0, 0, 0), 400);
    }

    private static void emptyAndUnknown() {
        KindPostman x = new KindPostman();
        CHECK.due("fault(0) at first", x.fault(0), 0);
        CHECK.due("fault(1) at first", x.fault(1), -1);
        for (int k = 0; k < 4; k++) {
            CHECK.due("an empty text " + k, x.text(k), 0);
        }
        Words.tell(x, 2, "walk 0;");
        CHECK.due("a fault", x.fault(0), 2);
        CHECK.due("its place", x.fault(1), 5);
        CHECK.due("fault(2)", x.fault(2), -1);
        CHECK.due("fault(-1)", x.fault(-1), -1);
        CHECK.due("text(4)", x.text(4), -1);
        CHECK.due("no fault then", x.fault(0), 0);
        CHECK.due("no place then", x.fault(1), -1);
        CHECK.due("text(-1)", x.text(-1), -1);
        CHECK.due("a text without a fault", Words.tell(x, 0, "opens 1;"), 1);
        CHECK.due("no fault", x.fault(0), 0);
        CHECK.due("no place", x.fault(1), -1);
    }

    private static KindPostman asked() {
        KindPostman x = new KindPostman();
        x.door(-3, 4, 55);
        x.post(0, 2, 77);
        x.days(2);
        x.set(0, 0, -3);
        x.set(3, 0, 66);
        x.set(4, 0, 23);
        x.rain(8);
        return x;
    }

    /** What opens is by such an E, of a kiss of 77, two days old. */
    private static int e(String text) {
        KindPostman x = asked();
        CHECK.due("text " + text, Words.tell(x, 0, "opens " + text + ";"), 1);
        return x.letter(0, 5);
    }

    private static void lawTells() {
        String[] names = {"kind", "much", "age", "0-face", "love", "purse", "health", "hunger", "hour", "rain", "day"};
        int[] values = {2, 77, 2, 3, 4, 55, 66, 23, 0, 8, 2};
        for (int i = 0; i < names.length; i++) {
            CHECK.due(names[i], e(names[i]), values[i]);
        }
        CHECK.due("from left to right", e("100 - 30 - 5"), 65);
        CHECK.due("* before +", e("2 + 3 * 4"), 14);
        CHECK.due("/ from left to right", e("100 / 7 * 7"), 98);
        CHECK.due("* then /", e("100 * 7 / 3 / 2"), 116);
        CHECK.due("/ goes towards 0", e("face / 2 + 10"), 9);
        CHECK.due("a number of four digits", e("0042"), 42);
        CHECK.due("no blanks", e("7*much/7"), 77);
        CHECK.due("a part by 1", e("much/1"), 77);
        CHECK.due("a part by 9999", e("9999*7/9999"), 7);
        CHECK.due("ints wrap", e("9999*9999*9999/9999"), Math.max(0, Math.min(1000, 9999 * 9999 * 9999 / 9999)));
        CHECK.due("0 at least", e("face"), 0);
        CHECK.due("1000 at most", e("9999"), 1000);
        KindPostman x = asked();
        CHECK.due("lines by word", Words.tell(x, 0, "gives 5; tires 7; gives 6;\nopens 8 when 1 > 2;"), 4);
        CHECK.due("the first line with the word", x.letter(0, 6), 5);
        CHECK.due("another word", x.letter(0, 7), 7);
        CHECK.due("none is so: plainly", x.letter(0, 5), 900 - 800 - 60);
        Words.tell(x, 0, "gives 1 when kind = 1; gives 2 when kind = 2; gives 3;");
        CHECK.due("the first that is so", x.letter(0, 6), 2);
        Words.tell(x, 0, "gives 1 when kind = 1; gives 3;");
        CHECK.due("or that has none", x.letter(0, 6), 3);
        Words.tell(x, 0, "tires 0 - 1; gives 0 - 1;");
        CHECK.due("gives 0 at least", x.letter(0, 6), 0);
        CHECK.due("tires 0 at least", x.letter(0, 7), 0);
    }

    private static boolean b(String text) {
        return e("1 when " + text) == 1;
    }

    private static void conditions() {
        String[] so = {"1 < 2", "2 = 2", "3 > 2", "not 1 > 2", "(1 < 2)", "1 < 2 or 1 < 2 and 2 < 1",
            "1 < 2 or 2 < 1 and 2 < 1", "2 < 1 and 2 < 1 or 1 < 2", "not 2 < 1 and 1 < 2", "not (1 < 2 and 2 < 1)",
            "not not 1 < 2", "((1 < 2) or 2 < 1)", "not 2 < 1 or 1 < 2", "1 + 1 * 2 = 3", "face < 0",
            "not (2 < 1) and not (2 < 1)", "(not 2 < 1)", "not 1 < 2 or 1 < 2", "not (not (1 < 2)) and 2 > 1",
            "(2 < 1 or 1 < 2) and (1 < 2 or 2 < 1)", "not ((2 < 1 or 1 < 2) and 2 < 1)"};
        for (String text : so) {
            CHECK.due(text, b(text), true);
        }
        String[] not = {"2 < 2", "1 = 2", "2 > 2", "3 < 2", "2 > 3", "not 1 < 2", "not 1 < 2 and 2 < 1",
            "(1 < 2 or 1 < 2) and 2 < 1", "not (1 < 2 or 2 < 1)", "not 1 < 2 or not 1 < 2", "not not 2 < 1",
            "not 1 < 2 and 1 < 2", "not 1 = 1", "not 2 > 1", "not (1 < 2) and 1 < 2", "not not not 1 = 1",
            "(2 < 1 or 1 < 2) and (2 < 1 or 2 < 1)", "not (1 < 2) or not (2 > 1)"};
        for (String text : not) {
            CHECK.due(text, b(text), false);
        }
    }

    private static void opened() {
        String eight = "not not not not ((((1 < 2))))";
        CHECK.due("eight open", b(eight), true);
        CHECK.due("eight closed, eight open", b(eight + " and " + eight), true);
        fault(0, "opens 1 when not " + eight + ";", 3, 36);
        fault(0, "opens 1 when (" + eight + ");", 3, 33);
        fault(0, "opens 1 when not not not not not not not not (1 < 2);", 3, 45);
        fault(0, "opens 1 when ((((((((not 1 < 2))))))));", 3, 21);
        fault(0, "opens 1 when (1 < 2) and (((((((((1 < 2)))))))));", 3, 33);
        fault(0, "opens 1 when not 1 < 2 and (((((((((1 < 2)))))))));", 3, 35);
        fault(0, "opens 1 when not (1 < 2) or not not (((((((1 < 2)))))));", 3, 42);
        fault(0, "opens 1 when ((((((((1 < 2)))))))));", 1, 34);
        KindPostman x = asked();
        Words.tell(x, 0, "opens 1 when ((((((((1 < 2;");
        CHECK.due("what was open before a fault is not any more", Words.tell(x, 0, "opens 1 when " + eight + ";"), 1);
        CHECK.due("a not is closed behind its C",
            b("not 2<1 and not 2<1 and not 2<1 and not 2<1 and not 2<1 and not 2<1 and not 2<1 and not 2<1 and not 2<1"),
            true);
    }

    private static void fault(int k, String text, int what, int place) {
        KindPostman x = new KindPostman();
        x.door(0, 0, 0);
        x.door(0, 0, 0);
        CHECK.due("text(" + k + ") of " + text, Words.tell(x, k, text), -1);
        CHECK.due("fault(0) of " + text, x.fault(0), what);
        CHECK.due("fault(1) of " + text, x.fault(1), place);
    }

    private static void lawFaults() {
        fault(0, "opens", 1, 5);
        fault(0, "opens  ", 1, 7);
        fault(0, "opens 1", 1, 7);
        fault(0, "  shuts 1;", 1, 2);
        fault(0, "opensx 1;", 1, 0);
        fault(0, "opensX 1;", 1, 0);
        fault(0, "Opens 1;", 1, 0);
        fault(0, "opens 12345;", 1, 6);
        fault(0, "opens 1 2;", 1, 8);
        fault(0, "opens -1;", 1, 6);
        fault(0, "opens (1);", 1, 6);
        fault(0, "opens 1 +;", 1, 9);
        fault(0, "opens 1 / kind;", 1, 10);
        fault(0, "opens 1 / 0;", 2, 10);
        fault(0, "opens 1 / 0000;", 2, 10);
        fault(0, "opens 1 / 00000;", 1, 10);
        fault(0, "opens 1 when;", 1, 12);
        fault(0, "opens 1 when 1;", 1, 14);
        fault(0, "opens 1 when 1 < 2 < 3;", 1, 19);
        fault(0, "opens 1 when 1 2;", 1, 15);
        fault(0, "opens 1 when 1 2 < 3;", 1, 15);
        fault(0, "opens 1 when 1 kind < 3;", 1, 15);
        fault(0, "when 1;", 1, 0);
        fault(0, "not 1;", 1, 0);
        fault(0, "opens on;", 1, 6);
        fault(0, "opens not;", 1, 6);
        fault(0, "opens when 1 < 2;", 1, 6);
        fault(0, "opens 1 when (1 < 2;", 1, 19);
        fault(0, "opens 1 when 1 < 2);", 1, 18);
        fault(0, "opens 1 when (1 + 2) < 3;", 1, 19);
        fault(0, "opens 1 when 1 < 2 and;", 1, 22);
        fault(0, "opens 1 when not;", 1, 16);
        fault(0, "opens 1 when 1 < 2 not 1 < 2;", 1, 19);
        fault(0, "opens 1 when ();", 1, 14);
        fault(0, "opens 1;;", 1, 8);
        fault(0, "opens 1; walk 0;", 1, 9);
        fault(0, "opens news;", 1, 6);
        fault(0, "opens 1\t;", 1, 7);
        fault(0, "opens 1 / 0 x", 2, 10);
        fault(0, "opens x / 0;", 1, 6);
        fault(0, "opens 1 when 1 < 2 or (1 > 2 and", 1, 32);
    }

    private static void postFaults() {
        fault(1, "on", 1, 2);
        fault(1, "on 1000 to 0 news 5;", 2, 3);
        fault(1, "on 0 to 2 news 5;", 2, 8);
        fault(1, "on 0 to 1 news 0;", 2, 15);
        fault(1, "on 0 to 1 news 100;", 2, 15);
        fault(1, "on 0 to 1 love 5;", 1, 10);
        fault(1, "on 0 to 1 news;", 1, 14);
        fault(1, "on 0 to 1 5;", 1, 10);
        fault(1, "on 0 to 1 to 5;", 1, 10);
        fault(1, "on 0 to 1 walk 5;", 1, 10);
        fault(1, "on 0 1 news 5;", 1, 5);
        fault(1, "on to 1 news 5;", 1, 3);
        fault(1, "on 0 to 1 news 5", 1, 16);
        fault(1, "on 0 to 1 news 5 on", 1, 17);
        fault(1, "walk 0;", 1, 0);
        KindPostman x = new KindPostman();
        x.door(0, 0, 0);
        CHECK.due("all kinds", Words.tell(x, 1, "on 999 to 0 news 99;on 0 to 0 bill 1;on 0 to 0 kiss 1;"
            + "on 0 to 0 anger 1;on 0 to 0 invitation 1;on 0 to 0 text 1;on 0000 to 00 joke 01;"), 7);
        x.days(1);
        for (int i = 0; i < 6; i++) {
            CHECK.due("kind of " + i, x.letter(i, 2), i + 1);
        }
    }

    private static void roundAndStreetFaults() {
        fault(2, "walk", 1, 4);
        fault(2, "walk 2;", 2, 5);
        fault(2, "walk 1 1;", 1, 7);
        fault(2, "walk 1; run 1;", 1, 8);
        fault(3, "street 0 1;", 1, 10);
        fault(3, "street 0 0 5;", 2, 9);
        fault(3, "street 2 2 5;", 2, 7);
        fault(3, "street 0 2 5;", 2, 9);
        fault(3, "street 0 00 5;", 2, 9);
        fault(3, "street 0 1 0;", 2, 11);
        fault(3, "street 0 1 100;", 2, 11);
        fault(3, "street 0 1 5", 1, 12);
        fault(3, "streets 0 1 5;", 1, 0);
        KindPostman x = new KindPostman();
        CHECK.due("no door", Words.tell(x, 2, "walk 0;"), -1);
        CHECK.due("that is a fault of the number", x.fault(0), 2);
    }

    private static void oddBytes() {
        for (int b = 0; b < 256; b++) {
            boolean isToken = Character.isLetterOrDigit(b) && b < 128 || ";+-*/()<=> \n".indexOf(b) >= 0;
            if (!isToken) {
                fault(0, "opens 1 " + (char) b + ";", 1, 8);
                fault(2, "walk 1;" + (char) b, 1, 7);
            }
        }
    }

    /** Texts of 400 bytes, of as many tokens as can be. */
    private static void longTexts() {
        fault(0, ";".repeat(400), 1, 0);
        fault(0, "tires 1" + "+1".repeat(196) + " ", 1, 400);
        fault(0, "tires 1" + "+1".repeat(196) + "+", 1, 400);
        KindPostman x = asked();
        CHECK.due("a long sum", Words.tell(x, 0, "opens 1" + "+1".repeat(196) + ";"), 1);
        CHECK.due("what it tells", x.letter(0, 5), 197);
        CHECK.due("a long product", Words.tell(x, 0, "opens 1" + "*1".repeat(98) + "/1".repeat(98) + ";"), 1);
        CHECK.due("what it tells, too", x.letter(0, 5), 1);
        CHECK.due("many and", Words.tell(x, 0, "opens 5 when 1<2" + "and 1<2".repeat(54) + ";"), 1);
        CHECK.due("all are so", x.letter(0, 5), 5);
        CHECK.due("many and, one not so", Words.tell(x, 0, "opens 5 when 2<1" + "and 1<2".repeat(54) + ";"), 1);
        CHECK.due("not all are so", x.letter(0, 5), 40);
        CHECK.due("many or", Words.tell(x, 0, "opens 5 when 1<2" + "or 2<1".repeat(63) + ";"), 1);
        CHECK.due("one is so", x.letter(0, 5), 5);
        CHECK.due("many lines that are not so",
            Words.tell(x, 0, "opens 1 when 2<1;".repeat(15) + "opens 3+4*kind;"), 16);
        CHECK.due("the last one", x.letter(0, 5), 11);
        String deep = "2<1 or 1<2 and (".repeat(8) + "1<2" + ")".repeat(8);
        CHECK.due("deep", Words.tell(x, 0, "opens 5 when " + deep + ";"), 1);
        CHECK.due("deep and so", x.letter(0, 5), 5);
    }

    private static void manyTexts() {
        KindPostman x = asked();
        for (int i = 0; i < 60; i++) {
            String text = "gives 1+1-1 when 1>2 or 2>3; gives " + i + ";";
            CHECK.due("law " + i, Words.tell(x, 0, text), 2);
            CHECK.due("what law " + i + " gives", x.letter(0, 6), i);
        }
        String[] lines = {"tires 1;", "on 0 to 0 kiss 1;", "walk 0;", "street 0 1 1;"};
        x.door(0, 0, 0);
        for (int k = 0; k < 4; k++) {
            Words.tell(x, k, lines[k].repeat(5));
            CHECK.due("five lines", x.look(11 + k), 5);
            Words.tell(x, k, lines[k].repeat(2));
            CHECK.due("two lines", x.look(11 + k), 2);
            Words.tell(x, k, "");
            CHECK.due("none", x.look(11 + k), 0);
        }
    }

    private static void manyLines() {
        String[] lines = {"tires 1;", "on 0 to 0 kiss 1;", "walk 1;", "street 0 1 1;"};
        for (int k = 0; k < 4; k++) {
            KindPostman x = new KindPostman();
            x.door(0, 0, 0);
            x.door(0, 0, 0);
            String sixteen = lines[k].repeat(16);
            CHECK.due("sixteen lines", Words.tell(x, k, sixteen), 16);
            fault(k, sixteen + lines[k], 3, sixteen.length());
            fault(k, sixteen + " x", 1, sixteen.length() + 1);
            fault(k, sixteen + "\n" + lines[k].split(" ")[0], 3, sixteen.length() + 1);
            CHECK.due("look(" + (11 + k) + ")", x.look(11 + k), 16);
        }
    }

    private static void staysAsItWas() {
        KindPostman x = new KindPostman();
        x.door(0, 0, 0);
        x.door(0, 0, 0);
        x.post(0, 5, 50);
        String[] good = {"gives 7; tires 2;", "on 0 to 0 kiss 1;", "walk 0;", "street 0 1 9;"};
        String[] bad = {"gives 9; tires 3; opens;", "on 0 to 0 kiss 1; on 0 to 0 kiss 0;", "walk 1; walk 0; walk 9;",
            "street 0 1 1; street 0 0 1;"};
        for (int k = 0; k < 4; k++) {
            int lines = Words.tell(x, k, good[k]);
            CHECK.due("a bad text", Words.tell(x, k, bad[k]), -1);
            CHECK.due("it stays as it was", x.look(11 + k), lines);
            CHECK.due("and the tape is empty", x.end(1), false);
        }
        Words.tell(x, 2, "walk 1; walk 0; walk 9;");
        Words.tell(x, 1, "on 0 to 0 kiss 1;");
        CHECK.due("a bad round behind which a post is told", x.look(13), 1);
        Words.tell(x, 3, "street 0 1 1; street 0 1 2; street 0 0 1;");
        Words.tell(x, 2, "walk 0;");
        CHECK.due("bad streets behind which a round is told", x.look(14), 1);
        CHECK.due("the law stays", x.letter(0, 6), 7);
        CHECK.due("the street stays", x.of(0, 11), 9);
        Words.tell(x, 0, "opens 1000;");
        CHECK.due("the round and the post stay", x.days(1), 2);
        Words.feed(x, "walk 0;");
        x.text(4);
        CHECK.due("no such text: the tape is empty then, too", x.end(1), false);
    }
}
