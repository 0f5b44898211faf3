/** Promises 18 (shortest), 21 (carries), 30 (box), 33 (joy), 34 (game). */
public final class StreetThoughtTest {
    private static final Check CHECK = new Check();

    public static void main(String[] args) {
        shortest();
        manyGoals();
        carries();
        box();
        joy();
        game();
        CHECK.end();
    }

    private static KindPostman withDoors(int doors) {
        KindPostman x = new KindPostman();
        for (int i = 0; i < doors; i++) {
            x.door(0, 0, 0);
        }
        return x;
    }

    private static void shortest() {
        KindPostman x = withDoors(6);
        CHECK.due("none has a letter: how long", x.shortest(4, 0), 0);
        CHECK.due("none has a letter: where", x.shortest(4, 1), 4);
        x.post(4, 0, 1);
        CHECK.due("he is there: how long", x.shortest(4, 0), 0);
        CHECK.due("he is there: where", x.shortest(4, 1), 4);
        CHECK.due("no street: how long", x.shortest(0, 0), -1);
        CHECK.due("no street: where", x.shortest(0, 1), -1);
        Words.tell(x, 3, "street 0 1 5; street 0 2 5; street 0 3 7; street 3 4 2;");
        CHECK.due("through a door without a letter", x.shortest(0, 0), 9);
        CHECK.due("it ends there", x.shortest(0, 1), 4);
        x.undo();
        x.post(1, 0, 1);
        x.post(2, 0, 1);
        CHECK.due("back through 0", x.shortest(0, 0), 15);
        CHECK.due("of several the least end", x.shortest(0, 1), 1);
        CHECK.due("from one of them", x.shortest(1, 0), 10);
        CHECK.due("it ends at the other", x.shortest(1, 1), 2);
        x.post(3, 0, 1);
        CHECK.due("the farthest last", x.shortest(0, 0), 27);
        CHECK.due("where", x.shortest(0, 1), 3);
        x.post(5, 0, 1);
        CHECK.due("one can't be reached", x.shortest(0, 0), -1);
        int[][] wrong = {{-1, 0}, {6, 0}, {0, 2}, {0, -1}};
        for (int[] w : wrong) {
            CHECK.due("shortest(" + w[0] + ", " + w[1] + ")", x.shortest(w[0], w[1]), -1);
        }
        x.undo();
        CHECK.due("shortest(0, 2)", x.shortest(0, 2), -1);
        CHECK.due("shortest(0, -1)", x.shortest(0, -1), -1);
        x.post(0, 0, 1);
        CHECK.due("he comes through 0 anyway", x.shortest(1, 0), 5 + 10 + 7);
        x.undo();
        KindPostman y = withDoors(3);
        y.post(0, 0, 1);
        Words.tell(y, 3, "street 2 1 3; street 1 0 4;");
        CHECK.due("to door 0", y.shortest(2, 0), 7);
        CHECK.due("it ends at door 0", y.shortest(2, 1), 0);
        CHECK.due("nobody's door", new KindPostman().shortest(0, 1), -1);
    }

    private static void manyGoals() {
        KindPostman x = withDoors(12);
        StringBuilder text = new StringBuilder();
        for (int i = 0; i < 11; i++) {
            text.append("street ").append(i).append(" ").append(i + 1).append(" ").append(10 + i).append(";");
        }
        Words.tell(x, 3, text.toString());
        for (int d = 2; d < 10; d++) {
            x.post(d, 0, 1);
        }
        CHECK.due("eight in a row", x.shortest(0, 0), 10 + 11 + 12 + 13 + 14 + 15 + 16 + 17 + 18);
        CHECK.due("to the last one", x.shortest(0, 1), 9);
        CHECK.due("from the middle, first down", x.shortest(5, 0), 2 * (12 + 13 + 14) + 15 + 16 + 17 + 18);
        CHECK.due("to the upper end", x.shortest(5, 1), 9);
        x.post(11, 0, 1);
        CHECK.due("nine besides a: how long", x.shortest(0, 0), -1);
        CHECK.due("nine besides a: where", x.shortest(0, 1), -1);
        CHECK.due("eight besides a", x.shortest(11, 0), 20 + 19 + 18 + 17 + 16 + 15 + 14 + 13 + 12);
        CHECK.due("its end", x.shortest(11, 1), 2);
    }

    private static void carries() {
        KindPostman x = withDoors(1);
        CHECK.due("an empty bag: how many", x.carries(400, 0), 0);
        CHECK.due("an empty bag: ways", x.carries(400, 1), 1);
        CHECK.due("an empty bag, the least weight", x.carries(1, 0), 0);
        x.post(0, 0, 10);
        CHECK.due("too heavy: how many", x.carries(9, 0), 0);
        CHECK.due("too heavy: ways", x.carries(9, 1), 1);
        CHECK.due("just so", x.carries(10, 0), 1);
        x.post(0, 1, 20);
        x.post(0, 2, 20);
        x.post(0, 3, 30);
        CHECK.due("two of four", x.carries(40, 0), 2);
        CHECK.due("10 20, 10 20, 10 30, 20 20", x.carries(40, 1), 4);
        CHECK.due("10 20 and the other 20", x.carries(49, 1), 4);
        CHECK.due("three of four", x.carries(50, 1), 1);
        CHECK.due("10 20 30 twice, too", x.carries(60, 1), 3);
        CHECK.due("all", x.carries(80, 0), 4);
        CHECK.due("all in one way", x.carries(80, 1), 1);
        int[][] wrong = {{0, 0}, {401, 0}, {-1, 0}, {10, 2}, {10, -1}};
        for (int[] w : wrong) {
            CHECK.due("carries(" + w[0] + ", " + w[1] + ")", x.carries(w[0], w[1]), -1);
        }
        KindPostman y = withDoors(1);
        for (int i = 0; i < 24; i++) {
            y.post(0, 0, 33);
        }
        CHECK.due("twelve of 24", y.carries(400, 0), 12);
        CHECK.due("in so many ways", y.carries(400, 1), 2704156);
        KindPostman z = withDoors(1);
        z.post(0, 0, 1);
        CHECK.due("the least weight", z.carries(1, 0), 1);
        z.post(0, 0, 4);
        z.post(0, 0, 2);
        CHECK.due("an odd weight", z.carries(3, 1), 1);
        CHECK.due("odd weights and even ones", z.carries(6, 1), 3);
        CHECK.due("odd in all", z.carries(7, 0), 3);
    }

    private static void box() {
        KindPostman x = new KindPostman();
        CHECK.due("no doors", x.box(0), -1);
        CHECK.due("no doors: how far", x.box(1), -1);
        x.door(0, 0, 0);
        CHECK.due("one door", x.box(0), 0);
        CHECK.due("one door: how far", x.box(1), 0);
        x.door(0, 0, 0);
        CHECK.due("no street", x.box(0), -1);
        CHECK.due("no street: how far", x.box(1), -1);
        Words.tell(x, 3, "street 0 1 9;");
        CHECK.due("of two the least", x.box(0), 0);
        CHECK.due("how far", x.box(1), 9);
        x.door(0, 0, 0);
        Words.tell(x, 3, "street 0 2 9; street 2 1 3; street 0 1 20;");
        CHECK.due("in the middle", x.box(0), 2);
        CHECK.due("how far, by a way round", x.box(1), 9);
        Words.tell(x, 3, "street 0 1 9; street 1 2 3;");
        CHECK.due("at an odd door", x.box(0), 1);
        CHECK.due("far from door 0", x.box(1), 9);
        KindPostman y = withDoors(12);
        StringBuilder row = new StringBuilder();
        for (int i = 0; i < 11; i++) {
            row.append("street ").append(i).append(" ").append(i + 1).append(" 2;");
        }
        Words.tell(y, 3, row.toString());
        CHECK.due("twelve in a row", y.box(0), 5);
        CHECK.due("to the last of them", y.box(1), 12);
        CHECK.due("box(2)", x.box(2), -1);
        CHECK.due("box(-1)", x.box(-1), -1);
    }

    private static void joy() {
        KindPostman x = new KindPostman();
        CHECK.due("no doors", x.joy(0), -100);
        CHECK.due("no doors: where", x.joy(1), -100);
        x.door(-7, 0, 0);
        x.door(-3, 0, 0);
        x.door(-3, 0, 0);
        CHECK.due("at least one", x.joy(0), -3);
        CHECK.due("of several the first", x.joy(1), 1);
        x.set(0, 0, 4);
        x.set(0, 1, -4);
        x.set(0, 2, 4);
        CHECK.due("4, or 4 -4 4, or 4", x.joy(0), 4);
        CHECK.due("the first", x.joy(1), 0);
        x.set(0, 1, -3);
        CHECK.due("over a sad one", x.joy(0), 5);
        x.set(0, 0, 2);
        CHECK.due("not from the first", x.joy(0), 4);
        CHECK.due("where", x.joy(1), 2);
        KindPostman y = withDoors(11);
        y.door(7, 0, 0);
        y.set(0, 10, -1);
        y.set(0, 0, 6);
        CHECK.due("the last of twelve", y.joy(0), 12);
        CHECK.due("all together", y.joy(1), 0);
        y.set(0, 10, -7);
        CHECK.due("the last alone", y.joy(1), 11);
        CHECK.due("joy(2)", x.joy(2), -100);
        CHECK.due("joy(-1)", x.joy(-1), -100);
    }

    private static void game() {
        KindPostman x = withDoors(4);
        CHECK.due("an empty bag", x.game(0), -1);
        x.post(2, 0, 1);
        CHECK.due("the last one: at", x.game(0), 2);
        CHECK.due("the last one: how many", x.game(1), 1);
        x.post(2, 0, 1);
        CHECK.due("both", x.game(1), 2);
        x.post(2, 0, 1);
        CHECK.due("three of one door are lost", x.game(0), -1);
        CHECK.due("how many then", x.game(1), -1);
        x.post(1, 0, 1);
        CHECK.due("three and one", x.game(0), 1);
        x.post(3, 0, 1);
        CHECK.due("one, three, one", x.game(0), -1);
        x.post(3, 0, 1);
        CHECK.due("one, three, two: at", x.game(0), 3);
        CHECK.due("one, three, two: how many leave one, three, one", x.game(1), 1);
        x.post(3, 0, 1);
        x.post(3, 0, 1);
        CHECK.due("one, three, four", x.game(0), -1);
        x.post(0, 0, 1);
        CHECK.due("one, one, three, four: of several the least", x.game(0), 0);
        KindPostman y = withDoors(12);
        for (int i = 0; i < 5; i++) {
            y.post(11, 0, 1);
        }
        CHECK.due("five at the last door: at", y.game(0), 11);
        CHECK.due("five at the last door: how many", y.game(1), 2);
        y.post(3, 0, 1);
        y.post(3, 0, 1);
        CHECK.due("two and five", y.game(0), -1);
        y.post(3, 0, 1);
        y.post(3, 0, 1);
        CHECK.due("four and five: leave two, five", y.game(0), 3);
        CHECK.due("four and five: two", y.game(1), 2);
        CHECK.due("game(2)", x.game(2), -1);
        CHECK.due("game(-1)", x.game(-1), -1);
    }
}
