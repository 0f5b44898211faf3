/** The edges of TEXTS (Terms 2) and of promises 9 to 12: bytes, TOKENS, lines, numbers, FAULTS, what THE LAW tells. */
public final class TextEdgeTest {
    private static final Check CHECK = new Check();
    private static final String[] KINDS = {"news", "bill", "kiss", "anger", "invitation", "text", "joke"};
    private static final String[] LINES = {"opens 1;", "on 0 to 0 kiss 1;", "walk 0;", "street 0 1 1;"};

    public static void main(String[] args) {
        bytesOnTheTape();
        theTapeIsCut();
        theTapeIsEmptyThen();
        faultsOfTheLatest();
        emptyTexts();
        numbersOfDigits();
        wordsOfLetters();
        wordsOfTheText();
        blanks();
        noBlanks();
        theEnd();
        daysOfPost();
        muchOfPost();
        doorsOfTexts();
        sameDoor();
        lengthsOfStreets();
        shortestOfSeveral();
        sixteenLines();
        nineOpen();
        closedOnesAreNotOpen();
        partsByZero();
        theFirstByItsPlace();
        theLeastAtOnePlace();
        intsWrap();
        towardsZero();
        theFirstLineThatIsSo();
        whatTheNamesMean();
        plainly();
        heldAnswers();
        CHECK.end();
    }

    private static KindPostman withDoors(int doors) {
        KindPostman x = new KindPostman();
        for (int i = 0; i < doors; i++) {
            x.door(0, 0, 0);
        }
        return x;
    }

    private static void good(int doors, int k, String text, int lines) {
        KindPostman x = withDoors(doors);
        CHECK.due("text(" + k + ") of " + text, Words.tell(x, k, text), lines);
        CHECK.due("fault(0) of " + text, x.fault(0), 0);
        CHECK.due("fault(1) of " + text, x.fault(1), -1);
        CHECK.due("lines of " + text, x.look(11 + k), lines);
    }

    private static void fault(int doors, int k, String text, int what, int place) {
        KindPostman x = withDoors(doors);
        CHECK.due("text(" + k + ") of " + text, Words.tell(x, k, text), -1);
        CHECK.due("fault(0) of " + text, x.fault(0), what);
        CHECK.due("fault(1) of " + text, x.fault(1), place);
        CHECK.due("lines behind " + text, x.look(11 + k), 0);
    }

    private static void bytesOnTheTape() {
        CHECK.about("Twenty bytes come behind the TAPE, of each number the highest first: how many it has");
        String text = "walk 0;walk 1;walk 0;walk 1;walk 0;walk ";
        KindPostman x = withDoors(2);
        CHECK.due("twenty", x.feed(0x77616c6b, 0x20303b77, 0x616c6b20, 0x313b7761, 0x6c6b2030), 20);
        CHECK.due("forty", x.feed(0x3b77616c, 0x6b20313b, 0x77616c6b, 0x20303b77, 0x616c6b20), 40);
        CHECK.due("read as " + text, x.text(2), -1);
        CHECK.due("the end was missing", x.fault(1), 40);
        for (int at = 0; at < 20; at++) {
            KindPostman z = withDoors(2);
            Words.feed(z, " ".repeat(at) + (char) 200 + " ".repeat(19 - at));
            z.text(2);
            CHECK.due("the place of byte " + at + " among blanks", z.fault(1), at);
        }
        KindPostman y = new KindPostman();
        for (int i = 1; i <= 20; i++) {
            CHECK.due("feed " + i, y.feed(0, 0, 0, 0, 0), 20 * i);
        }
        CHECK.due("the 21st", y.feed(0, 0, 0, 0, 0), -1);
    }

    private static void theTapeIsCut() {
        CHECK.about("The TAPE has its first n bytes alone: true; false if it has not so many, or n is below 0");
        for (int n = -2; n <= 22; n++) {
            KindPostman x = withDoors(1);
            x.feed(0, 0, 0, 0, 0);
            boolean can = n >= 0 && n <= 20;
            CHECK.due("end(" + n + ") of 20", x.end(n), can);
            CHECK.due("feed behind it", x.feed(0, 0, 0, 0, 0), can ? n + 20 : 40);
        }
        KindPostman x = withDoors(1);
        Words.feed(x, "walk 0;walk 9;walk 0");
        CHECK.due("end(7)", x.end(7), true);
        CHECK.due("what was cut does not come again", x.end(20), false);
        CHECK.due("the first seven alone", x.text(2), 1);
        for (int n = 379; n <= 400; n++) {
            KindPostman y = new KindPostman();
            for (int i = 0; i < 20; i++) {
                y.feed(0, 0, 0, 0, 0);
            }
            CHECK.due("end(" + n + ")", y.end(n), true);
            CHECK.due("feed behind " + n, y.feed(0, 0, 0, 0, 0), n <= 380 ? n + 20 : -1);
            CHECK.due("all " + n + " are there still", y.end(n + 1), n <= 380);
        }
    }

    private static void theTapeIsEmptyThen() {
        CHECK.about("The TAPE, empty then, is TEXT k");
        String[] texts = {"walk 0;", "walk 9;", "walk 0; walk"};
        for (String text : texts) {
            for (int k = -1; k <= 4; k++) {
                KindPostman x = withDoors(1);
                Words.feed(x, text);
                x.text(k);
                CHECK.due("one byte behind text(" + k + ") of " + text, x.end(1), false);
                CHECK.due("feed behind text(" + k + ") of " + text, x.feed(0, 0, 0, 0, 0), 20);
            }
        }
    }

    private static void faultsOfTheLatest() {
        CHECK.about("Of the latest text() what 0 the FAULT (0 without one), 1 its place (NONE)");
        KindPostman x = withDoors(1);
        Words.tell(x, 2, "walk 9;");
        CHECK.due("a fault", x.fault(0), 2);
        x.feed(0, 0, 0, 0, 0);
        x.end(0);
        x.door(0, 0, 0);
        x.image(true);
        x.image(false);
        CHECK.due("it stays until the next text", x.fault(0), 2);
        CHECK.due("its place, too", x.fault(1), 5);
        Words.tell(x, 2, "walk 0; ?");
        CHECK.due("the next fault", x.fault(0), 1);
        CHECK.due("its own place", x.fault(1), 8);
        Words.tell(x, 2, "walk 0;");
        CHECK.due("none", x.fault(0), 0);
        CHECK.due("no place", x.fault(1), -1);
        Words.tell(x, 2, "?");
        CHECK.due("a fault at the very first", x.fault(1), 0);
        x.text(4);
        CHECK.due("no such text", x.fault(0), 0);
        CHECK.due("no place of no such text", x.fault(1), -1);
    }

    private static void emptyTexts() {
        CHECK.about("TEXTS (empty at first) .. {..}");
        for (int k = 0; k < 4; k++) {
            good(0, k, "", 0);
            good(0, k, " ", 0);
            good(0, k, "\n", 0);
            good(0, k, " \n".repeat(200), 0);
            KindPostman x = withDoors(2);
            CHECK.due("a line", Words.tell(x, k, LINES[k]), 1);
            CHECK.due("an empty text behind it", Words.tell(x, k, ""), 0);
            CHECK.due("no lines then", x.look(11 + k), 0);
        }
    }

    private static void numbersOfDigits() {
        CHECK.about("digits as many as stand together NUMBERS of 1 to 4 digits or none");
        String[] fine = {"0", "9", "00", "99", "000", "999", "0000", "9999", "0001"};
        for (String digits : fine) {
            good(1, 0, "opens " + digits + ";", 1);
            good(1, 0, "opens 1 when " + digits + " < 1;", 1);
        }
        String[] none = {"00000", "10000", "99999", "00001", "1234567890", "0".repeat(380)};
        for (String digits : none) {
            fault(1, 0, "opens " + digits + ";", 1, 6);
            fault(2, 1, "on " + digits + ";", 1, 3);
            fault(2, 2, "walk " + digits + ";", 1, 5);
            fault(2, 3, "street " + digits, 1, 7);
            fault(2, 3, "street 0 " + digits, 1, 9);
            fault(2, 3, "street 0 1 " + digits, 1, 11);
            fault(1, 0, "opens 1 / " + digits, 1, 10);
        }
        fault(1, 0, "opens 1 2;", 1, 8);
        fault(1, 2, "walk 0 0;", 1, 7);
        good(1, 1, "on 0000 to 0000 kiss 0001;", 1);
        good(2, 3, "street 0000 0001 0099;", 1);
    }

    private static void wordsOfLetters() {
        CHECK.about("letters as many as stand together are KEYWORDS or none");
        fault(1, 2, "walkwalk 0;", 1, 0);
        fault(1, 2, "wal 0;", 1, 0);
        fault(1, 2, "walks 0;", 1, 0);
        fault(1, 2, "w alk 0;", 1, 0);
        fault(1, 2, "walk 0;w", 1, 7);
        fault(1, 0, "opens 1 when not1<2 and notnot 1<2;", 1, 24);
        fault(1, 0, "opens kindmuch;", 1, 6);
        fault(1, 0, "opens 1whenn 1<2;", 1, 7);
        fault(1, 1, "on 0 to 0 kis 1;", 1, 10);
        fault(1, 1, "on 0 to 0 kisss 1;", 1, 10);
        fault(1, 1, "on 0 to 0 " + "kiss".repeat(90) + " 1;", 1, 10);
    }

    private static void wordsOfTheText() {
        CHECK.about("KEYWORDS (those told here for that text) or none");
        String[] words = {"opens", "gives", "tires", "when", "or", "and", "not", "kind", "much", "age", "face", "love",
            "purse", "health", "hunger", "hour", "rain", "day", "on", "to", "news", "bill", "kiss", "anger",
            "invitation", "text", "joke", "walk", "street"};
        for (int i = 0; i < words.length; i++) {
            boolean isUnit = i >= 7 && i <= 17;
            boolean isKind = i >= 20 && i <= 26;
            CHECK.due(words[i] + " as a unit", Words.tell(withDoors(2), 0, "opens " + words[i] + ";"), isUnit ? 1 : -1);
            CHECK.due(words[i] + " as a kind", Words.tell(withDoors(2), 1, "on 0 to 0 " + words[i] + " 1;"),
                isKind ? 1 : -1);
            CHECK.due(words[i] + " begins a law", Words.tell(withDoors(2), 0, words[i] + " 1;"), i < 3 ? 1 : -1);
            CHECK.due(words[i] + " begins a post", Words.tell(withDoors(2), 1, words[i] + " 0 to 0 kiss 1;"),
                i == 18 ? 1 : -1);
            CHECK.due(words[i] + " begins a round", Words.tell(withDoors(2), 2, words[i] + " 0;"), i == 27 ? 1 : -1);
            CHECK.due(words[i] + " begins streets", Words.tell(withDoors(2), 3, words[i] + " 0 1 1;"),
                i == 28 ? 1 : -1);
        }
    }

    private static void blanks() {
        CHECK.about("Blanks (32, 10) between");
        good(1, 2, " \n walk \n\n  0 \n ; \n", 1);
        for (int b = 0; b < 256; b++) {
            boolean isBlank = b == 32 || b == 10;
            boolean goesOn = b >= 'a' && b <= 'z' || b >= 'A' && b <= 'Z' || b >= '0' && b <= '9';
            if (isBlank) {
                good(1, 2, "walk" + (char) b + "0;", 1);
            } else if (!goesOn) {
                fault(1, 2, "walk" + (char) b + "0;", 1, 4);
                fault(1, 2, "walk 0;" + (char) b, 1, 7);
            }
        }
        fault(1, 2, "wa\nlk 0;", 1, 0);
        fault(1, 0, "opens 1 2 3;", 1, 8);
    }

    private static void noBlanks() {
        CHECK.about("letters as many as stand together; digits as many as stand together");
        good(1, 0, "opens1when1<2and(not2<1or3>2);gives2;", 2);
        good(1, 1, "on0to0kiss1;on999to0joke99;", 2);
        good(1, 2, "walk0;walk0;", 2);
        good(2, 3, "street0 1 5;street1 0 5;", 2);
        fault(2, 3, "street01 0;", 1, 10);
    }

    /** Cut behind each token: the end can't stand there, and its place is the length of all that there is. */
    private static void theEnd() {
        CHECK.about("1 what can't stand there (the end: the text's length)");
        String[] texts = {"opens 1 + kind * 2 / 3 when not ( 1 < 2 ) and 1 = 1 or 2 > 1 ;", "on 0 to 0 kiss 1 ;",
            "walk 0 ;", "street 0 1 5 ;"};
        for (int k = 0; k < 4; k++) {
            String text = texts[k];
            for (int at = text.indexOf(' '); at >= 0; at = text.indexOf(' ', at + 1)) {
                fault(2, k, text.substring(0, at), 1, at);
                fault(2, k, text.substring(0, at) + "  \n", 1, at + 3);
                fault(2, k, text.substring(0, at) + " ".repeat(400 - at), 1, 400);
            }
            good(2, k, text + " ".repeat(400 - text.length()), 1);
        }
    }

    private static void daysOfPost() {
        CHECK.about("2 (at the NUMBER) one beyond its bounds (DAY 0 .. 999)");
        String[] fine = {"0", "1", "998", "999", "0999"};
        for (String day : fine) {
            good(1, 1, "on " + day + " to 0 kiss 1;", 1);
        }
        String[] beyond = {"1000", "1001", "9999"};
        for (String day : beyond) {
            fault(1, 1, "on " + day + " to 0 kiss 1;", 2, 3);
        }
    }

    private static void muchOfPost() {
        CHECK.about("2 (at the NUMBER) one beyond its bounds (N 1 .. 99)");
        for (int much = 0; much <= 101; much++) {
            for (String kind : KINDS) {
                String line = "on 0 to 0 " + kind + " " + much + ";";
                if (much >= 1 && much <= 99) {
                    good(1, 1, line, 1);
                } else {
                    fault(1, 1, line, 2, 11 + kind.length());
                }
            }
        }
        fault(1, 1, "on 0 to 0 kiss 9999;", 2, 15);
    }

    private static void doorsOfTexts() {
        CHECK.about("2 (at the NUMBER) a DOOR that there is not");
        for (int doors = 0; doors <= 12; doors++) {
            for (int d = 0; d <= 13; d++) {
                if (d < doors) {
                    good(doors, 1, "on 0 to " + d + " kiss 1;", 1);
                    good(doors, 2, "walk " + d + ";", 1);
                } else {
                    fault(doors, 1, "on 0 to " + d + " kiss 1;", 2, 8);
                    fault(doors, 2, "walk " + d + ";", 2, 5);
                    fault(doors, 3, "street " + d + " 0 1;", 2, 7);
                    if (doors > 0) {
                        fault(doors, 3, "street 0 " + d + " 1;", 2, 9);
                    }
                }
            }
        }
        fault(12, 2, "walk 9999;", 2, 5);
        KindPostman x = withDoors(1);
        CHECK.due("not there yet", Words.tell(x, 2, "walk 1;"), -1);
        x.door(0, 0, 0);
        CHECK.due("there now", Words.tell(x, 2, "walk 1;"), 1);
    }

    private static void sameDoor() {
        CHECK.about("2 (at the NUMBER) the same DOOR again (of STREETS); unlike");
        for (int a = 0; a < 12; a++) {
            for (int b = 0; b < 12; b++) {
                String line = "street " + a + " " + b + " 1;";
                if (a == b) {
                    fault(12, 3, line, 2, 8 + Integer.toString(a).length());
                } else {
                    good(12, 3, line, 1);
                }
            }
        }
        fault(2, 3, "street 1 01 1;", 2, 9);
        fault(2, 3, "street 1 1 0;", 2, 9);
        fault(2, 3, "street 2 2 1;", 2, 7);
        good(2, 3, "street 0 1 1;street 0 1 1;", 2);
    }

    private static void lengthsOfStreets() {
        CHECK.about("2 (at the NUMBER) one beyond its bounds (street: N 1 .. 99)");
        for (int n = 0; n <= 101; n++) {
            String line = "street 0 1 " + n + ";";
            if (n >= 1 && n <= 99) {
                good(2, 3, line, 1);
                KindPostman x = withDoors(2);
                Words.tell(x, 3, line);
                CHECK.due("there", x.of(0, 11), n);
                CHECK.due("and back", x.of(1, 10), n);
            } else {
                fault(2, 3, line, 2, 11);
            }
        }
        fault(2, 3, "street 0 1 9999;", 2, 11);
    }

    private static void shortestOfSeveral() {
        CHECK.about("(either way; of several between two the shortest.)");
        String[] texts = {"street 0 1 5;street 0 1 6;", "street 0 1 6;street 0 1 5;", "street 0 1 6;street 1 0 5;",
            "street 1 0 5;street 0 1 6;", "street 0 1 99;street 1 0 5;street 0 1 50;"};
        for (String text : texts) {
            KindPostman x = withDoors(3);
            Words.tell(x, 3, text);
            CHECK.due("from 0 to 1 by " + text, x.of(0, 11), 5);
            CHECK.due("from 1 to 0 by " + text, x.of(1, 10), 5);
            CHECK.due("from 0 to 2 by " + text, x.of(0, 12), -1);
            CHECK.due("0 himself by " + text, x.of(0, 10), -1);
        }
    }

    private static void sixteenLines() {
        CHECK.about("16 lines of each at most; 3 (at its KEYWORD) the 17th line of a text");
        String[] firsts = {"opens", "on", "walk", "street"};
        for (int k = 0; k < 4; k++) {
            String fifteen = LINES[k].repeat(15);
            String sixteen = LINES[k].repeat(16);
            int length = sixteen.length();
            good(2, k, fifteen, 15);
            good(2, k, sixteen, 16);
            good(2, k, sixteen + " \n", 16);
            fault(2, k, sixteen + LINES[k], 3, length);
            fault(2, k, sixteen + "\n " + LINES[k], 3, length + 2);
            fault(2, k, sixteen + firsts[k], 3, length);
            fault(2, k, sixteen + firsts[k] + " ?", 3, length);
            fault(2, k, sixteen + ";", 1, length);
            fault(2, k, sixteen + "1", 1, length);
            fault(2, k, sixteen + firsts[(k + 1) % 4], 1, length);
            fault(2, k, fifteen + "?" + LINES[k] + LINES[k], 1, fifteen.length());
        }
        fault(2, 0, "opens 1;".repeat(16) + "gives 1;", 3, 128);
        fault(2, 0, "opens 1;".repeat(16) + "tires 1;", 3, 128);
    }

    private static void nineOpen() {
        CHECK.about("3 (at it) the 9th ( or not that is open");
        for (int nots = 0; nots <= 9; nots++) {
            int brackets = 8 - nots;
            String open = "opens 1 when " + "not ".repeat(nots);
            if (nots <= 8) {
                String eight = open + "(".repeat(brackets) + "1<2";
                good(1, 0, eight + ")".repeat(brackets) + ";", 1);
                fault(1, 0, open + "(".repeat(brackets) + "(1<2", 3, open.length() + brackets);
                fault(1, 0, open + "(".repeat(brackets) + "not 1<2", 3, open.length() + brackets);
                fault(1, 0, open + "(".repeat(brackets) + "not", 3, open.length() + brackets);
            } else {
                fault(1, 0, open + "1<2;", 3, 13 + 4 * 8);
            }
        }
        fault(1, 0, "opens 1 when (not (not (not (not (not 1<2;", 3, 33);
    }

    private static void closedOnesAreNotOpen() {
        CHECK.about("the 9th ( or not that is open");
        String eight = "((((((((1<2))))))))";
        String nots = "not not not not not not not not 1<2";
        good(1, 0, "opens 1 when " + eight + "and" + eight + "or" + eight + ";", 1);
        good(1, 0, "opens 1 when " + nots + " and " + nots + " or " + nots + ";", 1);
        good(1, 0, "opens 1 when " + eight + ";gives 1 when " + eight + ";", 2);
        good(1, 0, "opens 1 when (((((((1<2 and(1<2)or(1<2)and not 1<2 or not 1<2)))))));", 1);
        fault(1, 0, "opens 1 when (((((((1<2 and(not 1<2", 3, 28);
        fault(1, 0, "opens 1 when (((((((1<2 and(1<2)or((", 3, 35);
        fault(1, 0, "opens 1 when " + eight + "and(" + eight, 3, 13 + 19 + 4 + 7);
        fault(1, 0, "opens 1 when " + nots + " and not " + nots, 3, 13 + 35 + 9 + 28);
    }

    private static void partsByZero() {
        CHECK.about("2 (at the NUMBER) a part by 0");
        String[] zeros = {"0", "00", "000", "0000"};
        for (String zero : zeros) {
            fault(1, 0, "opens 1/" + zero + ";", 2, 8);
            fault(1, 0, "opens 1 when 1<1/" + zero + ";", 2, 17);
            good(1, 0, "opens 1*" + zero + ";", 1);
            good(1, 0, "opens " + zero + "/1;", 1);
        }
        good(1, 0, "opens 1/1;", 1);
        good(1, 0, "opens 1/9999;", 1);
        fault(1, 0, "opens 1/kind;", 1, 8);
        fault(1, 0, "opens 1/(2);", 1, 8);
        fault(1, 0, "opens 1/-2;", 1, 8);
    }

    private static void theFirstByItsPlace() {
        CHECK.about("FAULTS, the first by its place");
        fault(1, 0, "opens 1/0; opens ?;", 2, 8);
        fault(1, 0, "opens ?; opens 1/0;", 1, 6);
        fault(1, 1, "on 1000 to 5 kiss 0;", 2, 3);
        fault(1, 1, "on 0 to 5 kiss 0;", 2, 8);
        fault(1, 1, "on 0 to 5 hug 0;", 2, 8);
        fault(1, 1, "on 0 to 0 hug 0;", 1, 10);
        fault(1, 2, "walk 1", 2, 5);
        fault(2, 3, "street 5 5 100;", 2, 7);
        fault(2, 3, "street 1 1 100", 2, 9);
        fault(1, 2, "walk 1;" + "walk 0;".repeat(17), 2, 5);
        fault(1, 2, "walk 0;".repeat(16) + "walk 1;", 3, 112);
        fault(1, 2, "walk 0;".repeat(15) + "walk 1;walk 0;", 2, 110);
    }

    private static void theLeastAtOnePlace() {
        CHECK.about("at one place the least");
        fault(1, 0, "opens 1 when ((((((((1<2(", 1, 24);
        fault(1, 0, "opens 1 when ((((((((1<(", 1, 23);
        fault(1, 0, "opens 1 when ((((((((1<not", 1, 23);
        fault(1, 0, "opens 1 when ((((((((1<2 not", 1, 25);
        fault(1, 0, "opens 1 / 2 0;", 1, 12);
        fault(1, 1, "on 0 to 0 1000;", 1, 10);
        fault(1, 2, "walk 0 9;", 1, 7);
        fault(1, 2, "9;", 1, 0);
        fault(2, 3, "street 0 1 5 0;", 1, 13);
    }

    private static int asked(String gives, int face) {
        KindPostman x = new KindPostman();
        x.door(face, 0, 0);
        x.post(0, 5, 50);
        CHECK.due("a law that gives " + gives, Words.tell(x, 0, "gives " + gives + ";"), 1);
        return x.letter(0, 6);
    }

    private static boolean isSo(String condition, int face) {
        return asked("1 when " + condition, face) == 1;
    }

    private static void intsWrap() {
        CHECK.about("Ints, which wrap");
        String[] so = {"8192*8192*32<0", "8192*8192*64=0", "8192*8192*32=0-8192*8192*32",
            "8192*8192*16+8192*8192*16<0", "0-8192*8192*16-8192*8192*16-1>0", "8192*8192*32-1>8192*8192*16",
            "8192*8192*32-1+1=8192*8192*32", "8192*8192*32<8192*8192*32-1", "9999*9999*9999<0-1",
            "8192*8192*32<1", "1>8192*8192*32"};
        for (String condition : so) {
            CHECK.due(condition, isSo(condition, 0), true);
            CHECK.due("not " + condition, isSo("not " + condition, 0), false);
        }
        CHECK.due("a product", asked("9999*9999*9999/9999/9999", 0),
            Math.max(0, Math.min(99, 9999 * 9999 * 9999 / 9999 / 9999)));
    }

    private static void towardsZero() {
        CHECK.about("/ goes towards 0");
        for (int face = -9; face <= 9; face++) {
            for (int part = 1; part <= 10; part++) {
                CHECK.due(face + " / " + part, asked("face/" + part + "+50", face), 50 + face / part);
            }
        }
        CHECK.due("the lowest", isSo("8192*8192*32/9999+2147*100+69=0", 0), -2147483648 / 9999 + 214769 == 0);
        CHECK.due("the lowest by 2", isSo("8192*8192*32/2=0-8192*8192*16", 0), true);
        CHECK.due("a part of a part", asked("99/10/10", 0), 0);
        CHECK.due("from left to right", asked("7/2*2", 0), 6);
    }

    private static void theFirstLineThatIsSo() {
        CHECK.about("E of the first line with that word whose B is so, or that has none");
        String[] laws = {"1;gives 2", "1 when 1<2;gives 2", "2 when 2<1;gives 1", "2 when 2<1;gives 1 when 1<2;gives 3",
            "2 when 2<1;tires 9;opens 9;gives 1 when 1=1;gives 4", "2 when 1<2 and 2<1;gives 1"};
        for (String law : laws) {
            KindPostman x = withDoors(1);
            x.post(0, 5, 50);
            Words.tell(x, 0, "gives " + law + ";");
            CHECK.due("gives " + law, x.letter(0, 6), 1);
        }
        KindPostman x = withDoors(1);
        x.post(0, 5, 50);
        CHECK.due("sixteen lines", Words.tell(x, 0, "gives 2 when 2<1;".repeat(15) + "gives 1;"), 16);
        CHECK.due("the last of sixteen", x.letter(0, 6), 1);
        Words.tell(x, 0, "gives 2 when 2<1;".repeat(16));
        CHECK.due("none of sixteen", x.letter(0, 6), 50);
    }

    private static void whatTheNamesMean() {
        CHECK.about("kind, much, age: the LETTER's; face, love, purse: the DOOR's; health, hunger: his; hour; ..");
        KindPostman x = new KindPostman();
        x.door(1, 2, 3);
        x.door(6, 7, 8);
        x.post(0, 4, 11);
        x.days(3);
        x.post(1, 5, 12);
        x.days(1);
        x.set(0, 0, 1);
        x.set(0, 1, 6);
        x.set(3, 0, 21);
        x.set(4, 0, 22);
        x.rain(9);
        Words.tell(x, 0, "opens 0; tires 17;");
        x.bring(0);
        String[] names = {"kind", "much", "age", "face", "love", "purse", "health", "hunger", "hour", "rain", "day"};
        int[] first = {4, 11, 4, 1, 2, 3, 21, 22, 17, 9, 4};
        int[] second = {5, 12, 1, 6, 7, 8, 21, 22, 17, 9, 4};
        for (int i = 0; i < names.length; i++) {
            Words.tell(x, 0, "gives " + names[i] + "; tires " + names[i] + ";opens " + names[i] + ";");
            CHECK.due(names[i] + " of the first", x.letter(0, 6), first[i]);
            CHECK.due(names[i] + " of the second", x.letter(1, 6), second[i]);
            CHECK.due(names[i] + " for opens", x.letter(1, 5), second[i]);
            CHECK.due(names[i] + " for tires", x.letter(1, 7), Math.min(20, second[i]));
        }
    }

    private static void plainly() {
        CHECK.about("(none: opens: 900 less 100 times rain and 20 times face, gives: much, tires: 1)");
        for (int face = -9; face <= 9; face++) {
            for (int rain = 0; rain <= 9; rain++) {
                KindPostman x = new KindPostman();
                x.door(face, 0, 0);
                x.rain(rain);
                x.post(0, 6, 1 + 9 * rain);
                int due = Math.max(0, Math.min(1000, 900 - 100 * rain + 20 * face));
                CHECK.due("opens by FACE " + face + " and RAIN " + rain, x.letter(0, 5), due);
                CHECK.due("gives", x.letter(0, 6), 1 + 9 * rain);
                CHECK.due("tires", x.letter(0, 7), 1);
            }
        }
    }

    private static void heldAnswers() {
        CHECK.about("opens held to 0 .. 1000, gives to 0 .. 99, tires to 0 .. 20");
        String[] words = {"opens", "gives", "tires"};
        int[] most = {1000, 99, 20};
        for (int word = 0; word < 3; word++) {
            int[] values = {0, 1, most[word] - 1, most[word], most[word] + 1, 9999};
            KindPostman x = withDoors(1);
            x.post(0, 5, 50);
            for (int v : values) {
                Words.tell(x, 0, words[word] + " " + v + ";");
                CHECK.due(words[word] + " " + v, x.letter(0, 5 + word), Math.min(most[word], v));
            }
            String[] below = {"0-1", "0-9999", "8192*8192*32"};
            for (String v : below) {
                Words.tell(x, 0, words[word] + " " + v + ";");
                CHECK.due(words[word] + " " + v, x.letter(0, 5 + word), 0);
            }
            Words.tell(x, 0, words[word] + " 8192*8192*32-1;");
            CHECK.due(words[word] + " of the highest", x.letter(0, 5 + word), most[word]);
        }
    }
}
