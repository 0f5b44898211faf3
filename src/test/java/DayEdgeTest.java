/** The edges of what A DAY is (Terms 3), of promise 8, and of GOES (Terms 4, promise 17), which goes by the same. */
public final class DayEdgeTest {
    private static final Check CHECK = new Check();

    public static void main(String[] args) {
        howManyDays();
        theLastDay();
        theHourIsZero();
        postComesOnItsDay();
        postComesIntoAFullBag();
        postComesBeforeTheRound();
        belowTwentyFour();
        healthAboveZero();
        byNumber();
        twiceOnTheRound();
        olderByADay();
        hungerGrows();
        healthByHunger();
        facesGoTowardsZero();
        whoGotOne();
        theBookOfADay();
        aFullBookOnADay();
        goesOpens();
        goesAsDaysDo();
        goesToTheEdges();
        CHECK.end();
    }

    private static KindPostman withDoors(int doors, String law) {
        KindPostman x = new KindPostman();
        for (int i = 0; i < doors; i++) {
            x.door(0, 0, 0);
        }
        Words.tell(x, 0, law);
        return x;
    }

    private static void howManyDays() {
        CHECK.about("DAYS go by (1 .. 60): how many LETTERS were brought");
        for (int n = -1; n <= 62; n++) {
            KindPostman x = withDoors(1, "opens 1000;");
            x.post(0, 5, 1);
            x.post(0, 5, 1);
            Words.tell(x, 2, "walk 0;");
            boolean can = n >= 1 && n <= 60;
            CHECK.due("days(" + n + ")", x.days(n), can ? 2 : -1);
            CHECK.due("DAY", x.look(8), can ? n : 0);
            CHECK.due("what can be undone", x.look(15), can ? Math.min(6, n) : 0);
            CHECK.due("the bag", x.look(1), can ? 0 : 2);
        }
        KindPostman x = withDoors(1, "opens 1000; tires 20;");
        for (int i = 0; i < 5; i++) {
            x.post(0, 5, 1);
        }
        Words.tell(x, 2, "walk 0;");
        CHECK.due("of several days together", x.days(3), 5);
    }

    private static void theLastDay() {
        CHECK.about("NONE, and nothing is done, if one can't be, or DAY would be above 9999");
        KindPostman x = States.early(20);
        CHECK.due("DAY", x.look(8), 9980);
        CHECK.due("one too many", x.days(20), -1);
        CHECK.due("sixty", x.days(60), -1);
        CHECK.due("DAY still", x.look(8), 9980);
        CHECK.due("one less", x.days(18), 0);
        CHECK.due("DAY 9998", x.look(8), 9998);
        CHECK.due("two are too many", x.days(2), -1);
        CHECK.due("one is not", x.days(1), 0);
        CHECK.due("DAY 9999", x.look(8), 9999);
        CHECK.due("none more", x.days(1), -1);
        CHECK.due("DAY 9999 still", x.look(8), 9999);
        x.undo();
        CHECK.due("one again behind undo", x.days(1), 0);
        CHECK.due("just as many as can be", States.early(20).days(19), 0);
    }

    private static void theHourIsZero() {
        CHECK.about("(a) HOUR is 0");
        KindPostman x = withDoors(1, "opens 0; tires 20;");
        x.post(0, 5, 1);
        x.bring(0);
        CHECK.due("HOUR by hand", x.look(6), 20);
        x.days(1);
        CHECK.due("HOUR of a day without a round", x.look(6), 0);
        x.bring(0);
        x.bring(0);
        Words.tell(x, 2, "walk 0;");
        x.days(1);
        CHECK.due("HOUR of a day with one", x.look(6), 20);
    }

    private static void postComesOnItsDay() {
        CHECK.about("Line by line of POST for it: a LETTER comes into THE BAG (DAY 0 .. 999)");
        KindPostman x = withDoors(2, "");
        String post = "on 999 to 0 kiss 9;on 0 to 1 text 1;on 1 to 0 joke 2;on 0 to 0 news 3;";
        CHECK.due("POST", Words.tell(x, 1, post), 4);
        CHECK.due("nothing yet", x.look(1), 0);
        x.days(1);
        CHECK.due("of day 0 two", x.look(1), 2);
        CHECK.due("in the order of the lines", x.letter(0, 3), 1);
        CHECK.due("the second of them", x.letter(1, 3), 3);
        CHECK.due("AGE at the day's end", x.letter(0, 4), 1);
        x.days(1);
        CHECK.due("of day 1 one", x.look(1), 3);
        x.days(1);
        CHECK.due("of day 2 none", x.look(1), 3);
        for (int i = 0; i < 16; i++) {
            x.days(60);
        }
        x.days(36);
        CHECK.due("DAY 999", x.look(8), 999);
        CHECK.due("nothing before it", x.look(1), 0);
        x.days(1);
        CHECK.due("of day 999 one", x.letter(0, 3), 9);
        x.days(9);
        CHECK.due("none behind it", x.look(1), 0);
        Words.tell(x, 1, "on 8 to 0 kiss 1;");
        x.days(1);
        CHECK.due("days that have been don't come again", x.look(1), 0);
    }

    private static void postComesIntoAFullBag() {
        CHECK.about("(is it full: LOST one more); a LETTER for which there is no room has none: which NONE");
        for (int before = 21; before <= 24; before++) {
            KindPostman x = withDoors(2, "");
            for (int i = 0; i < before; i++) {
                x.post(0, 5, 1);
            }
            Words.tell(x, 1, "on 0 to 1 text 1;on 0 to 1 text 2;");
            x.days(1);
            int room = Math.min(2, 24 - before);
            CHECK.due("letters behind " + before, x.look(1), before + room);
            CHECK.due("LOST behind " + before, x.look(5), 2 - room);
            CHECK.due("lines of the book behind " + before, x.look(9), before + 2);
            CHECK.due("what of the last line behind " + before, x.book(before + 1, 1), room == 2 ? 0 : 3);
            CHECK.due("which of the last line behind " + before, x.book(before + 1, 2), room == 2 ? before + 1 : -1);
            CHECK.due("how much of the last line behind " + before, x.book(before + 1, 3), 1);
        }
    }

    private static void postComesBeforeTheRound() {
        CHECK.about("(a) .. a LETTER comes into THE BAG .. (b) Line by line of ROUND");
        KindPostman x = withDoors(1, "opens 1000;");
        for (int i = 0; i < 24; i++) {
            x.post(0, 5, 1);
        }
        Words.tell(x, 1, "on 0 to 0 text 1;on 1 to 0 text 1;");
        Words.tell(x, 2, "walk 0;");
        CHECK.due("the round makes room too late", x.days(1), 24);
        CHECK.due("LOST", x.look(5), 1);
        CHECK.due("what comes is brought on its day", x.days(1), 1);
        CHECK.due("its number", x.book(50, 2), 24);
    }

    private static int broughtWith(String tires, int letters) {
        KindPostman x = withDoors(1, "opens 1000; tires " + tires + ";");
        for (int i = 0; i < letters; i++) {
            x.post(0, 5, 1 + i);
        }
        Words.tell(x, 2, "walk 0;");
        return x.days(1);
    }

    private static void belowTwentyFour() {
        CHECK.about("if HOUR is below 24");
        CHECK.due("by 12 each", broughtWith("12", 5), 2);
        CHECK.due("by 8 each", broughtWith("8", 5), 3);
        CHECK.due("20 and 3, then one more", broughtWith("20 when much = 1; tires 3 when much = 2; tires 9", 5), 3);
        CHECK.due("20 and 4, then none", broughtWith("20 when much = 1; tires 4 when much = 2; tires 9", 5), 2);
        CHECK.due("20 and 5, then none", broughtWith("20 when much = 1; tires 5 when much = 2; tires 9", 5), 2);
        CHECK.due("by 1 each", broughtWith("1", 24), 24);
        CHECK.due("by 0 each", broughtWith("0", 24), 24);
        KindPostman x = withDoors(2, "opens 0; tires 1;");
        x.post(0, 5, 1);
        x.post(0, 5, 1);
        Words.tell(x, 2, "walk 0;".repeat(13));
        x.days(1);
        CHECK.due("not opened, it tires as well", x.look(6), 24);
        CHECK.due("two posted, 24 times not opened", x.look(9), 26);
    }

    private static void healthAboveZero() {
        CHECK.about("and HEALTH above 0, he BRINGS it");
        for (int health = 0; health <= 3; health++) {
            KindPostman x = withDoors(1, "opens 1000; gives 1;");
            for (int i = 0; i < 4; i++) {
                x.post(0, 3, 1);
            }
            Words.tell(x, 2, "walk 0;");
            x.set(3, 0, health);
            x.state(0);
            CHECK.due("each blow takes 1 of HEALTH " + health, x.days(1), health);
            CHECK.due("HEALTH at the day's end", x.look(2), 3);
            CHECK.due("draws alone for those that he brought", x.look(10) == 0, health == 0);
        }
        KindPostman x = withDoors(2, "opens 1000;");
        x.post(0, 3, 9);
        x.post(1, 5, 9);
        Words.tell(x, 2, "walk 0; walk 1;");
        x.set(3, 0, 9);
        CHECK.due("at the next door, too", x.days(1), 1);
    }

    private static void byNumber() {
        CHECK.about("LETTER by LETTER (by number) of that DOOR in THE BAG");
        KindPostman x = withDoors(3, "opens 1000;");
        int[] doors = {1, 0, 2, 1, 1, 0};
        for (int door : doors) {
            x.post(door, 5, 1);
        }
        Words.tell(x, 2, "walk 1; walk 0; walk 1;");
        CHECK.due("five were brought", x.days(1), 5);
        int[] order = {0, 3, 4, 1, 5};
        for (int i = 0; i < 5; i++) {
            CHECK.due("the number brought as " + i, x.book(6 + i, 2), order[i]);
        }
        CHECK.due("one is left", x.letter(0, 0), 2);
    }

    private static void twiceOnTheRound() {
        CHECK.about("Line by line of ROUND (16 lines of each at most)");
        KindPostman x = withDoors(1, "opens 0; tires 0;");
        x.post(0, 5, 1);
        Words.tell(x, 2, "walk 0;".repeat(16));
        x.days(1);
        CHECK.due("sixteen times at the door", x.look(9), 17);
        Words.tell(x, 2, "");
        x.days(1);
        CHECK.due("no round, no line", x.look(9), 17);
    }

    private static void olderByADay() {
        CHECK.about("(c) Each LETTER yet in THE BAG: AGE one more; is it 9 then, it is gone, LOST one more");
        KindPostman x = withDoors(1, "opens 0;");
        x.post(0, 5, 1);
        x.days(3);
        x.post(0, 5, 2);
        for (int age = 4; age <= 8; age++) {
            x.days(1);
            CHECK.due("AGE of the first", x.letter(0, 4), age);
            CHECK.due("AGE of the second", x.letter(1, 4), age - 3);
            CHECK.due("none LOST", x.look(5), 0);
        }
        x.days(1);
        CHECK.due("the first is gone", x.letter(0, 0), 1);
        CHECK.due("one LOST", x.look(5), 1);
        x.days(2);
        CHECK.due("AGE 8 stays", x.letter(0, 4), 8);
        Words.tell(x, 2, "walk 0;");
        Words.tell(x, 0, "opens 1000;");
        CHECK.due("at AGE 8 it can be brought", x.days(1), 1);
        CHECK.due("one LOST still", x.look(5), 1);
        KindPostman y = withDoors(1, "opens 0;");
        for (int i = 0; i < 24; i++) {
            y.post(0, 5, 1);
        }
        y.days(9);
        CHECK.due("all of a full bag", y.look(5), 24);
        CHECK.due("the bag is empty", y.look(1), 0);
        CHECK.due("a new one has a new number", y.post(0, 5, 1), 24);
    }

    private static void hungerGrows() {
        CHECK.about("(d) HUNGER 5 more (99 at most)");
        for (int hunger = 0; hunger <= 99; hunger++) {
            KindPostman x = new KindPostman();
            x.set(4, 0, hunger);
            CHECK.due("thought of HUNGER " + hunger, x.goes(1, 1), Math.min(99, hunger + 5));
            x.days(1);
            CHECK.due("HUNGER " + hunger, x.look(3), Math.min(99, hunger + 5));
        }
    }

    private static void healthByHunger() {
        CHECK.about("is it above 50, HEALTH 5 less, else 3 more (0 .. 99 held)");
        int[] hungers = {0, 44, 45, 46, 50, 51, 99};
        for (int hunger : hungers) {
            for (int health = 0; health <= 99; health++) {
                KindPostman x = new KindPostman();
                x.set(4, 0, hunger);
                x.set(3, 0, health);
                int due = hunger + 5 > 50 ? Math.max(0, health - 5) : Math.min(99, health + 3);
                CHECK.due("thought of HEALTH " + health + " by HUNGER " + hunger, x.goes(1, 0), due);
                x.days(1);
                CHECK.due("HEALTH " + health + " by HUNGER " + hunger, x.look(2), due);
            }
        }
    }

    private static void facesGoTowardsZero() {
        CHECK.about("FACE of each DOOR that got none in (b) goes 1 towards 0");
        for (int face = -9; face <= 9; face++) {
            KindPostman x = new KindPostman();
            for (int d = 0; d < 12; d++) {
                x.door(d == 0 || d == 11 ? face : 0, 0, 0);
            }
            x.days(1);
            CHECK.due("FACE " + face + " of the first", x.of(0, 0), face - Integer.signum(face));
            CHECK.due("FACE " + face + " of the last", x.of(11, 0), face - Integer.signum(face));
            CHECK.due("FACE 0 of another", x.of(5, 0), 0);
        }
    }

    private static void whoGotOne() {
        CHECK.about("FACE of each DOOR that got none in (b)");
        KindPostman x = new KindPostman();
        for (int d = 0; d < 4; d++) {
            x.door(5, 0, 0);
        }
        Words.tell(x, 0, "opens 0 when much = 9; opens 1000;");
        Words.tell(x, 2, "walk 0; walk 1; walk 2;");
        x.post(0, 5, 1);
        x.post(1, 5, 9);
        x.post(3, 5, 1);
        x.bring(2);
        x.days(1);
        CHECK.due("got one on the round", x.of(0, 0), 5);
        CHECK.due("did not open", x.of(1, 0), 4);
        CHECK.due("had none", x.of(2, 0), 4);
        CHECK.due("got one by hand", x.of(3, 0), 4);
        x.days(1);
        CHECK.due("got one the day before", x.of(0, 0), 4);
    }

    private static void theBookOfADay() {
        CHECK.about("THE BOOK: DAY, what (0 posted, 1 brought, 2 not opened, 3 lost), which, how much");
        KindPostman x = withDoors(3, "opens 1000 when kind = 2; opens 0;");
        x.days(3);
        x.post(2, 5, 6);
        x.days(8);
        Words.tell(x, 1, "on 11 to 1 kiss 7;");
        Words.tell(x, 2, "walk 2; walk 1;");
        x.days(1);
        int[][] lines = {{3, 0, 0, 2}, {11, 0, 1, 1}, {11, 2, 0, 2}, {11, 1, 1, 7}, {11, 3, 0, 2}};
        CHECK.due("lines", x.look(9), 5);
        for (int i = 0; i < 5; i++) {
            for (int what = 0; what < 4; what++) {
                CHECK.due("book(" + i + ", " + what + ")", x.book(i, what), lines[i][what]);
            }
        }
    }

    private static void aFullBookOnADay() {
        CHECK.about("THE BOOK (150 lines; no more then)");
        KindPostman x = withDoors(1, "opens 0 when much < 24; opens 1000; tires 0;");
        for (int i = 0; i < 24; i++) {
            x.post(0, 5, 1 + i);
        }
        Words.tell(x, 1, "on 1 to 0 text 24;");
        Words.tell(x, 2, "walk 0;".repeat(16));
        CHECK.due("one of 24 is brought", x.days(1), 1);
        CHECK.due("150 lines", x.look(9), 150);
        CHECK.due("the last one", x.book(149, 1), 2);
        CHECK.due("none more", x.book(150, 1), -2);
        CHECK.due("what comes beyond the book is brought", x.days(1), 1);
        CHECK.due("given", x.given(5), 48);
        CHECK.due("150 lines still", x.look(9), 150);
        CHECK.due("of the first day", x.book(149, 0), 0);
        x.days(8);
        CHECK.due("what is lost is counted", x.look(5), 23);
        CHECK.due("and not booked", x.look(9), 150);
    }

    private static void goesOpens() {
        CHECK.about("no DRAWS: it opens, if opens is 500 at least");
        for (int opens = 498; opens <= 501; opens++) {
            KindPostman x = withDoors(1, "opens " + opens + ";");
            x.post(0, 5, 1);
            Words.tell(x, 2, "walk 0;");
            CHECK.due("letters left by opens " + opens, x.goes(1, 2), opens >= 500 ? 0 : 1);
            CHECK.due("STATE", x.look(10), 0);
        }
    }

    private static void goesAsDaysDo() {
        CHECK.about("GOES for n DAYS: HEALTH, HUNGER, how many LETTERS are in THE BAG, LOST then");
        for (int n = 1; n <= 30; n++) {
            KindPostman x = withDoors(2, "opens 1000 when kind = 4; opens 1000 when kind = 3; opens 0;");
            for (int i = 0; i < 23; i++) {
                x.post(1, 3 + i % 4, 2);
            }
            Words.tell(x, 1, "on 0 to 0 anger 9; on 0 to 0 text 5; on 3 to 1 invitation 40; on 7 to 0 joke 5;");
            Words.tell(x, 2, "walk 0; walk 1;");
            int[] thought = new int[4];
            for (int what = 0; what < 4; what++) {
                thought[what] = x.goes(n, what);
            }
            x.days(n);
            int[] looks = {2, 3, 1, 5};
            for (int what = 0; what < 4; what++) {
                CHECK.due("goes(" + n + ", " + what + ")", thought[what], x.look(looks[what]));
            }
        }
    }

    private static void goesToTheEdges() {
        CHECK.about("GOES for n (1 .. 60) DAYS; NONE if one can't be, or another what");
        KindPostman x = withDoors(1, "");
        for (int n = -1; n <= 62; n++) {
            boolean can = n >= 1 && n <= 60;
            CHECK.due("goes(" + n + ", 1)", x.goes(n, 1), can ? Math.min(99, 5 * n) : -1);
        }
        for (int what = -2; what <= 5; what++) {
            int[] due = {99, 5, 0, 0};
            CHECK.due("goes(1, " + what + ")", x.goes(1, what), what >= 0 && what < 4 ? due[what] : -1);
        }
        CHECK.due("no day went by", x.look(8), 0);
    }
}
