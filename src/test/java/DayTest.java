/** Promises 7 (rain), 8 (days), 17 (goes). */
public final class DayTest {
    private static final Check CHECK = new Check();

    public static void main(String[] args) {
        rains();
        wrongDays();
        hungerAndHealth();
        postByDays();
        fullBag();
        round();
        dusk();
        weak();
        ages();
        faces();
        lastDay();
        goes();
        goesBySureDoors();
        CHECK.end();
    }

    private static KindPostman withDoors(int doors) {
        KindPostman x = new KindPostman();
        for (int i = 0; i < doors; i++) {
            x.door(0, 0, 0);
        }
        Words.tell(x, 0, "opens 1000;");
        return x;
    }

    private static void rains() {
        KindPostman x = new KindPostman();
        CHECK.due("rain(-1)", x.rain(-1), false);
        CHECK.due("rain(10)", x.rain(10), false);
        CHECK.due("nothing to undo", x.look(15), 0);
        CHECK.due("rain(9)", x.rain(9), true);
        CHECK.due("it rains", x.look(7), 9);
        CHECK.due("rain(0)", x.rain(0), true);
        CHECK.due("no more", x.look(7), 0);
        CHECK.due("two to undo", x.look(15), 2);
    }

    private static void wrongDays() {
        KindPostman x = new KindPostman();
        int[] wrong = {0, -1, 61, Integer.MIN_VALUE, Integer.MAX_VALUE};
        for (int n : wrong) {
            CHECK.due("days(" + n + ")", x.days(n), -1);
        }
        CHECK.due("no day went by", x.look(8), 0);
        CHECK.due("days(60)", x.days(60), 0);
        CHECK.due("look(8)", x.look(8), 60);
        CHECK.due("six to undo", x.look(15), 6);
    }

    private static void hungerAndHealth() {
        KindPostman x = new KindPostman();
        x.set(3, 0, 90);
        x.set(4, 0, 40);
        x.days(1);
        CHECK.due("hunger", x.look(3), 45);
        CHECK.due("health is 3 more", x.look(2), 93);
        x.days(1);
        CHECK.due("hunger 50 is not above 50", x.look(2), 96);
        x.days(1);
        CHECK.due("above 50: 5 less", x.look(2), 91);
        x.set(4, 0, 46);
        x.days(1);
        CHECK.due("51 is above 50", x.look(2), 86);
        x.days(20);
        CHECK.due("hunger 99 at most", x.look(3), 99);
        CHECK.due("health 0 at least", x.look(2), 0);
        x.set(4, 0, 0);
        x.set(3, 0, 98);
        x.days(1);
        CHECK.due("health 99 at most", x.look(2), 99);
    }

    private static void postByDays() {
        KindPostman x = withDoors(2);
        CHECK.due("POST", Words.tell(x, 1, "on 1 to 1 kiss 5; on 0 to 0 news 7; on 1 to 0 joke 99; on 999 to 0 bill 1;"),
            4);
        x.days(1);
        CHECK.due("one came", x.look(1), 1);
        CHECK.due("its much", x.letter(0, 3), 7);
        CHECK.due("a day old", x.letter(0, 4), 1);
        x.days(1);
        CHECK.due("two more came", x.look(1), 3);
        CHECK.due("in the order of lines", x.letter(1, 2), 2);
        CHECK.due("the last one", x.letter(2, 2), 6);
        int[] line = {1, 0, 2, 0};
        for (int what = 0; what < 4; what++) {
            CHECK.due("book(2, " + what + ")", x.book(2, what), line[what]);
        }
        CHECK.due("of door 1", x.book(1, 3), 1);
        for (int i = 0; i < 16; i++) {
            x.days(60);
        }
        x.days(38);
        CHECK.due("the last of POST", x.look(1), 1);
        CHECK.due("a bill", x.letter(0, 2), 1);
    }

    private static void fullBag() {
        KindPostman x = withDoors(2);
        for (int i = 0; i < 23; i++) {
            x.post(0, 5, 1);
        }
        Words.tell(x, 1, "on 0 to 1 kiss 5; on 0 to 1 joke 6; on 0 to 0 news 7;");
        x.days(1);
        CHECK.due("the bag is full", x.look(1), 24);
        CHECK.due("two were lost", x.look(5), 2);
        int[][] lines = {{0, 0, 23, 1}, {0, 3, -1, 1}, {0, 3, -1, 0}};
        for (int i = 0; i < 3; i++) {
            for (int what = 0; what < 4; what++) {
                CHECK.due("book(" + (23 + i) + ", " + what + ")", x.book(23 + i, what), lines[i][what]);
            }
        }
        x.bring(0);
        CHECK.due("the lost ones took no number", x.post(0, 5, 1), 24);
    }

    private static void round() {
        KindPostman x = withDoors(3);
        for (int i = 0; i < 6; i++) {
            x.post(i % 3, 5, 1);
        }
        Words.tell(x, 2, "walk 2; walk 0;");
        CHECK.due("four were brought", x.days(1), 4);
        int[] order = {2, 5, 0, 3};
        for (int i = 0; i < 4; i++) {
            CHECK.due("brought as number " + i, x.book(6 + i, 2), order[i]);
        }
        CHECK.due("those of door 1 are left", x.look(1), 2);
        CHECK.due("the hour", x.look(6), 4);
        x.days(1);
        CHECK.due("the hour anew", x.look(6), 0);
        Words.tell(x, 0, "opens 0;");
        Words.tell(x, 2, "walk 1; walk 1; walk 2;");
        CHECK.due("none was opened", x.days(1), 0);
        CHECK.due("he came twice to both", x.look(6), 4);
        CHECK.due("not opened, booked", x.book(13, 1), 2);
    }

    private static void dusk() {
        KindPostman x = withDoors(1);
        Words.tell(x, 0, "opens 1000; tires 12 when much = 2; tires 11 when much = 3;");
        Words.tell(x, 2, "walk 0;");
        x.post(0, 5, 2);
        x.post(0, 5, 3);
        x.post(0, 5, 2);
        x.post(0, 5, 2);
        CHECK.due("23 is below 24, 35 is not", x.days(1), 3);
        CHECK.due("the hour", x.look(6), 35);
        CHECK.due("by hand at any hour", x.bring(3), 2);
        x.post(0, 5, 2);
        x.post(0, 5, 2);
        x.post(0, 5, 2);
        CHECK.due("24 is not below 24", x.days(1), 2);
    }

    private static void weak() {
        KindPostman x = withDoors(1);
        Words.tell(x, 2, "walk 0;");
        x.set(3, 0, 10);
        x.post(0, 3, 10);
        x.post(0, 5, 1);
        CHECK.due("struck down by the first", x.days(1), 1);
        CHECK.due("one left", x.look(1), 1);
        CHECK.due("health again", x.look(2), 3);
        CHECK.due("the next day", x.days(1), 1);
        x.set(3, 0, 1);
        x.post(0, 5, 1);
        CHECK.due("health 1 is above 0", x.days(1), 1);
    }

    private static void ages() {
        KindPostman x = withDoors(2);
        x.post(1, 5, 1);
        x.days(1);
        x.post(0, 5, 1);
        x.post(1, 5, 1);
        x.days(7);
        CHECK.due("eight days old", x.letter(0, 4), 8);
        x.days(1);
        CHECK.due("nine days: gone", x.look(1), 2);
        CHECK.due("lost", x.look(5), 1);
        int[] line = {8, 3, 0, 1};
        for (int what = 0; what < 4; what++) {
            CHECK.due("book(3, " + what + ")", x.book(3, what), line[what]);
        }
        x.days(1);
        CHECK.due("both others on one day", x.look(5), 3);
        CHECK.due("booked in order", x.book(5, 2), 2);
    }

    private static void faces() {
        KindPostman x = withDoors(0);
        int[] faces = {5, -5, 0, 1, -1, 5, 5};
        for (int face : faces) {
            x.door(face, 0, 0);
        }
        x.post(5, 5, 1);
        x.post(6, 5, 1);
        Words.tell(x, 2, "walk 5;");
        x.bring(1);
        x.days(1);
        int[] then = {4, -4, 0, 0, 0, 5, 4};
        for (int d = 0; d < then.length; d++) {
            CHECK.due("face of " + d, x.of(d, 0), then[d]);
        }
        KindPostman y = withDoors(11);
        y.door(9, 0, 0);
        y.days(1);
        CHECK.due("the last of twelve", y.of(11, 0), 8);
        Words.tell(x, 0, "opens 0;");
        x.post(5, 5, 1);
        x.days(1);
        CHECK.due("one that was not opened is none got", x.of(5, 0), 4);
    }

    private static void lastDay() {
        KindPostman x = new KindPostman();
        for (int i = 0; i < 166; i++) {
            x.days(60);
        }
        CHECK.due("look(8)", x.look(8), 9960);
        CHECK.due("beyond the last day", x.days(40), -1);
        CHECK.due("nothing was done", x.look(8), 9960);
        CHECK.due("to the last day", x.days(39), 0);
        CHECK.due("look(8) then", x.look(8), 9999);
        CHECK.due("no day more", x.days(1), -1);
        CHECK.due("in thought one may go on", x.goes(1, 1), 99);
    }

    private static void goes() {
        KindPostman x = withDoors(2);
        Words.tell(x, 1, "on 3 to 0 text 5; on 4 to 1 text 5;");
        Words.tell(x, 2, "walk 0;");
        x.post(1, 5, 1);
        x.state(5);
        x.rain(1);
        CHECK.due("goes(1, 2)", x.goes(1, 2), 1);
        CHECK.due("goes(5, 2)", x.goes(5, 2), 2);
        CHECK.due("goes(9, 3)", x.goes(9, 3), 1);
        CHECK.due("goes(8, 3)", x.goes(8, 3), 0);
        CHECK.due("goes(60, 1)", x.goes(60, 1), 99);
        CHECK.due("goes(60, 0)", x.goes(60, 0), 0);
        CHECK.due("goes(10, 0)", x.goes(10, 0), 99);
        CHECK.due("goes(11, 0)", x.goes(11, 0), 94);
        CHECK.due("nothing stays: day", x.look(8), 0);
        CHECK.due("nothing stays: bag", x.look(1), 1);
        CHECK.due("nothing stays: state", x.look(10), 5);
        CHECK.due("nothing stays: book", x.look(9), 1);
        CHECK.due("nothing stays: what can be undone", x.look(15), 1);
        int[][] wrong = {{0, 0}, {61, 0}, {-1, 0}, {1, -1}, {1, 4}};
        for (int[] w : wrong) {
            CHECK.due("goes(" + w[0] + ", " + w[1] + ")", x.goes(w[0], w[1]), -1);
        }
    }

    private static void goesBySureDoors() {
        KindPostman x = withDoors(1);
        x.post(0, 3, 30);
        x.post(0, 4, 3);
        Words.tell(x, 2, "walk 0;");
        Words.tell(x, 0, "opens 499;");
        CHECK.due("499 stays shut", x.goes(1, 2), 2);
        Words.tell(x, 0, "opens 500;");
        CHECK.due("500 is opened", x.goes(1, 2), 0);
        CHECK.due("it strikes him", x.goes(1, 0), 72);
        x.set(4, 0, 10);
        CHECK.due("it feeds him", x.goes(1, 1), 12);
        CHECK.due("his health is as it was", x.look(2), 99);
    }
}
