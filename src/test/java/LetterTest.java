/** Promises 5 (post), 6 (bring), 14 (letter), 15 (given), 16 (book). */
public final class LetterTest {
    private static final Check CHECK = new Check();
    private static final int NEWS = 0;
    private static final int BILL = 1;
    private static final int KISS = 2;
    private static final int ANGER = 3;
    private static final int INVITATION = 4;
    private static final int TEXT = 5;
    private static final int JOKE = 6;

    public static void main(String[] args) {
        posts();
        fullBag();
        byKind();
        heldFaces();
        sorrow();
        bills();
        angerAndInvitation();
        notOpened();
        draws();
        tiresBehindTheRest();
        refused();
        letters();
        givens();
        fullBook();
        CHECK.end();
    }

    private static KindPostman withDoor(int face, int purse) {
        KindPostman x = new KindPostman();
        x.door(face, 0, purse);
        Words.tell(x, 0, "opens 1000;");
        return x;
    }

    private static void posts() {
        KindPostman x = new KindPostman();
        CHECK.due("no door", x.post(0, 0, 1), -1);
        x.door(0, 0, 0);
        int[][] wrong = {{-1, 0, 1}, {1, 0, 1}, {0, -1, 1}, {0, 7, 1}, {0, 0, 0}, {0, 0, 100}};
        for (int[] w : wrong) {
            CHECK.due("a letter that can't be", x.post(w[0], w[1], w[2]), -1);
        }
        CHECK.due("nothing to undo", x.look(15), 0);
        CHECK.due("nothing booked", x.look(9), 0);
        CHECK.due("the least letter", x.post(0, 0, 1), 0);
        CHECK.due("the greatest letter", x.post(0, 6, 99), 1);
        CHECK.due("look(1)", x.look(1), 2);
        CHECK.due("lines of the book", x.look(9), 2);
        int[] line = {0, 0, 1, 0};
        for (int what = 0; what < 4; what++) {
            CHECK.due("book(1, " + what + ")", x.book(1, what), line[what]);
        }
    }

    private static void fullBag() {
        KindPostman x = withDoor(0, 0);
        for (int i = 0; i < 24; i++) {
            CHECK.due("post " + i, x.post(0, TEXT, 1), i);
        }
        CHECK.due("the bag is full", x.post(0, TEXT, 1), -1);
        CHECK.due("by hand none is lost", x.look(5), 0);
        CHECK.due("and none booked", x.look(9), 24);
        CHECK.due("bring 5", x.bring(5), 1);
        CHECK.due("there is room; gone ones keep their numbers", x.post(0, TEXT, 1), 24);
        CHECK.due("it lies last", x.letter(23, 0), 24);
        CHECK.due("the others in order", x.letter(5, 0), 6);
    }

    private static void byKind() {
        int[] smiles = {-1, -1, 1, -1, 0, 0, 2};
        for (int kind = 0; kind < 7; kind++) {
            KindPostman x = withDoor(0, 500);
            x.set(4, 0, 50);
            x.post(0, kind, 10);
            CHECK.due("kind " + kind + " is given", x.bring(0), 10);
            CHECK.due("kind " + kind + " in all", x.given(kind), 10);
            CHECK.due("face by kind " + kind, x.of(0, 0), smiles[kind]);
            CHECK.due("health by kind " + kind, x.look(2), kind == ANGER ? 89 : 99);
            CHECK.due("hunger by kind " + kind, x.look(3), kind == INVITATION ? 40 : 50);
            CHECK.due("purse by kind " + kind, x.of(0, 2), kind == BILL ? 490 : 500);
            CHECK.due("got by kind " + kind, x.of(0, 3), 1);
            CHECK.due("the bag is empty", x.look(1), 0);
            CHECK.due("the hour", x.look(6), 1);
            CHECK.due("sat", x.look(4), 0);
            int[] line = {0, 1, 0, 10};
            for (int what = 0; what < 4; what++) {
                CHECK.due("book(1, " + what + ")", x.book(1, what), line[what]);
            }
        }
    }

    private static void heldFaces() {
        int[][] faces = {{-9, NEWS, -9}, {9, KISS, 9}, {8, JOKE, 9}, {9, JOKE, 9}, {-9, ANGER, -9}, {-9, BILL, -9}};
        for (int[] f : faces) {
            KindPostman x = withDoor(f[0], 0);
            x.post(0, f[1], 1);
            x.bring(0);
            CHECK.due("face " + f[0] + " by kind " + f[1], x.of(0, 0), f[2]);
        }
    }

    private static void sorrow() {
        KindPostman x = withDoor(0, 0);
        x.set(3, 0, 10);
        x.post(0, NEWS, 49);
        x.post(0, NEWS, 50);
        x.post(0, TEXT, 99);
        x.bring(0);
        CHECK.due("no sorrow in 49", x.look(4), 0);
        x.bring(1);
        CHECK.due("he sits down at 50", x.look(4), 1);
        CHECK.due("it does him good", x.look(2), 15);
        x.bring(2);
        CHECK.due("news alone", x.look(4), 1);
        x.set(3, 0, 97);
        x.post(0, NEWS, 99);
        x.bring(3);
        CHECK.due("99 at most", x.look(2), 99);
    }

    private static void bills() {
        KindPostman x = withDoor(0, 25);
        x.post(0, BILL, 20);
        x.post(0, BILL, 20);
        x.post(0, BILL, 20);
        CHECK.due("paid whole", x.bring(0), 20);
        CHECK.due("paid in part", x.bring(1), 5);
        CHECK.due("nothing left: opened, 0 given", x.bring(2), 0);
        CHECK.due("purse", x.of(0, 2), 0);
        CHECK.due("given", x.given(BILL), 25);
        CHECK.due("got", x.of(0, 3), 3);
        CHECK.due("booked what was given", x.book(4, 3), 5);
    }

    private static void angerAndInvitation() {
        KindPostman x = withDoor(0, 0);
        x.set(3, 0, 20);
        x.set(4, 0, 20);
        x.post(0, INVITATION, 90);
        x.post(0, ANGER, 90);
        x.post(0, KISS, 5);
        CHECK.due("fed with more than hunger", x.bring(0), 90);
        CHECK.due("hunger 0 at least", x.look(3), 0);
        CHECK.due("struck by more than health", x.bring(1), 90);
        CHECK.due("health 0 at least", x.look(2), 0);
        CHECK.due("health 0: none is brought", x.bring(2), -2);
        CHECK.due("and none gone", x.look(1), 1);
        x.set(3, 0, 1);
        CHECK.due("with health 1 it is", x.bring(2), 5);
    }

    private static void notOpened() {
        KindPostman x = withDoor(2, 50);
        x.door(1, 0, 0);
        Words.tell(x, 0, "opens 0; tires 3;");
        x.post(1, KISS, 4);
        x.post(0, BILL, 4);
        x.state(0);
        CHECK.due("not opened", x.bring(1), -1);
        CHECK.due("it stays", x.look(1), 2);
        CHECK.due("no face changes", x.of(0, 0), 2);
        CHECK.due("nothing is given", x.given(BILL), 0);
        CHECK.due("purse stays", x.of(0, 2), 50);
        CHECK.due("got none", x.of(0, 3), 0);
        CHECK.due("it tires", x.look(6), 3);
        CHECK.due("a draw was made", x.look(10), 1013904223);
        int[] line = {0, 2, 1, 0};
        for (int what = 0; what < 4; what++) {
            CHECK.due("book(2, " + what + ")", x.book(2, what), line[what]);
        }
        x.bring(0);
        CHECK.due("booked with its door", x.book(3, 3), 1);
        Words.tell(x, 0, "tires 20;");
        for (int i = 0; i < 5; i++) {
            x.post(0, TEXT, 1);
            x.bring(2 + i);
        }
        CHECK.due("the hour is 99 at most", x.look(6), 99);
    }

    /** A draw is below opens or not by one alone: the first draw from STATE 0 is 557 of 1000. */
    private static void draws() {
        int first = (1013904223 >>> 8) % 1000;
        KindPostman x = withDoor(0, 0);
        x.post(0, TEXT, 7);
        Words.tell(x, 0, "opens " + first + ";");
        x.state(0);
        CHECK.due("at opens it stays shut", x.bring(0), -1);
        Words.tell(x, 0, "opens " + (first + 1) + ";");
        x.state(0);
        CHECK.due("below opens it is opened", x.bring(0), 7);
        int negative = 1;
        KindPostman y = withDoor(0, 0);
        y.post(0, TEXT, 7);
        int state = 0;
        while (negative > 0) {
            state++;
            negative = 1664525 * state + 1013904223;
        }
        y.state(state);
        int draw = (negative >>> 8) % 1000;
        Words.tell(y, 0, "opens " + draw + ";");
        CHECK.due("without sign: shut", y.bring(0), -1);
        CHECK.due("the state wraps", y.look(10), negative);
    }

    private static void tiresBehindTheRest() {
        KindPostman x = withDoor(0, 30);
        Words.tell(x, 0, "opens 1000; tires face + 10 when kind = 6; tires purse when kind = 1; tires hour;"
            + "gives 0 - 5 when kind = 5;");
        x.post(0, JOKE, 1);
        x.post(0, BILL, 25);
        x.post(0, TEXT, 9);
        x.bring(0);
        CHECK.due("the face behind the joke", x.look(6), 12);
        x.bring(1);
        CHECK.due("the purse behind the bill", x.look(6), 17);
        CHECK.due("gives 0 at least", x.bring(2), 0);
        CHECK.due("the hour before it", x.look(6), 34);
        Words.tell(x, 0, "opens 1000; tires 98 - health when kind = 3;");
        x.post(0, ANGER, 6);
        x.bring(3);
        CHECK.due("health behind anger", x.look(6), 39);
    }

    private static void refused() {
        KindPostman x = withDoor(0, 0);
        x.post(0, TEXT, 1);
        int[] none = {-1, 1, 24, Integer.MIN_VALUE, Integer.MAX_VALUE};
        for (int n : none) {
            CHECK.due("bring(" + n + ")", x.bring(n), -2);
        }
        CHECK.due("no draw", x.look(10), 0);
        CHECK.due("one posting to undo", x.look(15), 1);
        x.bring(0);
        CHECK.due("gone", x.bring(0), -2);
    }

    private static void letters() {
        KindPostman x = new KindPostman();
        x.door(3, 4, 5);
        x.door(-9, 0, 0);
        x.rain(2);
        x.post(0, KISS, 31);
        x.post(1, JOKE, 99);
        int[] first = {0, 0, 2, 31, 0, 760, 31, 1};
        int[] second = {1, 1, 6, 99, 0, 520, 99, 1};
        for (int what = 0; what < 8; what++) {
            CHECK.due("letter(0, " + what + ")", x.letter(0, what), first[what]);
            CHECK.due("letter(1, " + what + ")", x.letter(1, what), second[what]);
        }
        x.rain(9);
        CHECK.due("opens 0 at least", x.letter(1, 5), 0);
        x.rain(0);
        x.set(0, 0, 9);
        CHECK.due("opens 1000 at most", x.letter(0, 5), 1000);
        Words.tell(x, 0, "gives 500; tires 21; opens 5000 * 9999 * 9999;");
        CHECK.due("gives 99 at most", x.letter(0, 6), 99);
        CHECK.due("tires 20 at most", x.letter(0, 7), 20);
        CHECK.due("ints wrap", x.letter(0, 5), Math.max(0, Math.min(1000, 5000 * 9999 * 9999)));
        int[] others = {-1, 8, Integer.MAX_VALUE};
        for (int what : others) {
            CHECK.due("letter(0, " + what + ")", x.letter(0, what), -1);
        }
        CHECK.due("letter(2, 0)", x.letter(2, 0), -1);
        CHECK.due("letter(-1, 0)", x.letter(-1, 0), -1);
        x.days(1);
        CHECK.due("a day older", x.letter(0, 4), 1);
    }

    private static void givens() {
        KindPostman x = withDoor(0, 0);
        x.post(0, KISS, 40);
        x.post(0, KISS, 50);
        x.bring(0);
        x.bring(1);
        CHECK.due("kisses", x.given(KISS), 90);
        CHECK.due("jokes", x.given(JOKE), 0);
        CHECK.due("given(-1)", x.given(-1), -1);
        CHECK.due("given(7)", x.given(7), -1);
    }

    private static void fullBook() {
        KindPostman x = withDoor(0, 0);
        for (int i = 0; i < 76; i++) {
            x.post(0, TEXT, 1);
            x.bring(i);
        }
        CHECK.due("150 lines, no more then", x.look(9), 150);
        CHECK.due("the last line", x.book(149, 2), 74);
        CHECK.due("what it was", x.book(149, 1), 1);
        CHECK.due("book(150, 0)", x.book(150, 0), -2);
        CHECK.due("book(-1, 0)", x.book(-1, 0), -2);
        CHECK.due("book(0, 4)", x.book(0, 4), -2);
        CHECK.due("book(0, -1)", x.book(0, -1), -2);
        x.undo();
        x.undo();
        CHECK.due("still full behind the 75th", x.look(9), 150);
        x.undo();
        CHECK.due("one less", x.look(9), 149);
        CHECK.due("book(149, 0) then", x.book(149, 0), -2);
    }
}
