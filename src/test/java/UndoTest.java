/** Promises 35 (undo), 36 (image), 37 (look). */
public final class UndoTest {
    private static final Check CHECK = new Check();

    public static void main(String[] args) {
        nothing();
        each();
        sixAreKept();
        aDayWhole();
        bookGoesBack();
        forgets();
        doesNotForget();
        textsStay();
        imageNone();
        image();
        imageTwice();
        looks();
        CHECK.end();
    }

    private static KindPostman withLetter() {
        KindPostman x = new KindPostman();
        x.door(3, 4, 50);
        Words.tell(x, 0, "opens 1000;");
        x.post(0, 1, 20);
        return x;
    }

    private static void nothing() {
        KindPostman x = new KindPostman();
        CHECK.due("nothing to undo", x.undo(), false);
        x.door(0, 0, 0);
        CHECK.due("a door is not undone", x.undo(), false);
        CHECK.due("it is there", x.look(0), 1);
    }

    private static void each() {
        KindPostman x = withLetter();
        x.rain(4);
        CHECK.due("a bill is paid", x.bring(0), 20);
        CHECK.due("undo of bringing", x.undo(), true);
        CHECK.due("purse", x.of(0, 2), 50);
        CHECK.due("face", x.of(0, 0), 3);
        CHECK.due("got", x.of(0, 3), 0);
        CHECK.due("given", x.given(1), 0);
        CHECK.due("hour", x.look(6), 0);
        CHECK.due("state", x.look(10), 0);
        CHECK.due("book", x.look(9), 1);
        CHECK.due("the letter is there", x.letter(0, 3), 20);
        x.post(0, 2, 21);
        x.bring(0);
        CHECK.due("the second lies first", x.letter(0, 0), 1);
        x.undo();
        CHECK.due("its number", x.letter(0, 0), 0);
        CHECK.due("its door", x.letter(0, 1), 0);
        CHECK.due("its kind", x.letter(0, 2), 1);
        CHECK.due("the other's number", x.letter(1, 0), 1);
        x.undo();
        CHECK.due("undo of rain", x.undo(), true);
        CHECK.due("rain", x.look(7), 0);
        CHECK.due("undo of posting", x.undo(), true);
        CHECK.due("bag", x.look(1), 0);
        CHECK.due("no more", x.undo(), false);
        CHECK.due("the number goes back, too", x.post(0, 2, 5), 0);
    }

    private static void sixAreKept() {
        KindPostman x = new KindPostman();
        for (int i = 1; i <= 9; i++) {
            x.rain(i);
            CHECK.due("what can be undone", x.look(15), Math.min(6, i));
        }
        for (int i = 8; i >= 3; i--) {
            CHECK.due("undo", x.undo(), true);
            CHECK.due("rain", x.look(7), i);
        }
        CHECK.due("six at most", x.undo(), false);
        x.rain(1);
        x.rain(2);
        CHECK.due("undo behind undo", x.undo(), true);
        CHECK.due("rain", x.look(7), 1);
        CHECK.due("one left", x.look(15), 1);
    }

    private static void aDayWhole() {
        KindPostman x = new KindPostman();
        x.door(5, 0, 0);
        x.door(-5, 0, 0);
        Words.tell(x, 0, "opens 1000;");
        Words.tell(x, 1, "on 0 to 0 news 60; on 1 to 0 anger 30; on 1 to 1 invitation 3;");
        Words.tell(x, 2, "walk 0; walk 1;");
        x.set(3, 0, 40);
        x.set(4, 0, 20);
        x.days(1);
        int[] then = all(x);
        CHECK.due("sat", x.look(4), 1);
        x.days(1);
        CHECK.due("undo of a day", x.undo(), true);
        int[] again = all(x);
        for (int i = 0; i < then.length; i++) {
            CHECK.due("what was " + i, again[i], then[i]);
        }
        CHECK.due("undo of the first", x.undo(), true);
        CHECK.due("day", x.look(8), 0);
        CHECK.due("sat", x.look(4), 0);
        CHECK.due("health", x.look(2), 40);
        CHECK.due("hunger", x.look(3), 20);
        CHECK.due("face of 0", x.of(0, 0), 5);
        CHECK.due("face of 1", x.of(1, 0), -5);
        CHECK.due("it goes the same way again", x.days(1), 1);
        again = all(x);
        for (int i = 0; i < then.length; i++) {
            CHECK.due("what was again " + i, again[i], then[i]);
        }
    }

    private static int[] all(KindPostman x) {
        int[] seen = new int[16 + 7 + 8];
        for (int i = 0; i < 16; i++) {
            seen[i] = x.look(i);
        }
        for (int i = 0; i < 7; i++) {
            seen[16 + i] = x.given(i);
        }
        for (int i = 0; i < 8; i++) {
            seen[23 + i] = x.of(i / 4, i % 4);
        }
        return seen;
    }

    private static void bookGoesBack() {
        KindPostman x = withLetter();
        x.post(0, 2, 7);
        x.undo();
        CHECK.due("one line", x.look(9), 1);
        CHECK.due("the other is none", x.book(1, 0), -2);
        x.post(0, 3, 8);
        x.bring(1);
        CHECK.due("written anew", x.book(2, 3), 8);
        Words.tell(x, 2, "walk 0;");
        x.days(10);
        x.undo();
        CHECK.due("nine days", x.look(8), 9);
    }

    private static void forgets() {
        for (int what = 0; what < 8; what++) {
            KindPostman x = withLetter();
            x.image(true);
            CHECK.due("one to undo", x.look(15), 1);
            switch (what) {
                case 0: x.state(0); break;
                case 1: x.door(0, 0, 0); break;
                case 2: x.set(0, 0, 3); break;
                case 3: x.set(3, 0, 99); break;
                case 4: x.set(4, 0, 0); break;
                case 5: Words.tell(x, 1, "on 0 to 0 kiss 1;"); break;
                case 6: Words.tell(x, 2, "walk 0;"); break;
                default: x.image(false);
            }
            CHECK.due("forgotten by " + what, x.look(15), 0);
            CHECK.due("nothing to undo behind " + what, x.undo(), false);
            CHECK.due("the letter stays", x.look(1), 1);
        }
    }

    private static void doesNotForget() {
        KindPostman x = withLetter();
        x.image(false);
        x.image(true);
        x.door(10, 0, 0);
        x.set(0, 9, 0);
        x.set(0, 0, 10);
        x.set(7, 0, 0);
        x.post(0, 0, 0);
        x.bring(5);
        x.rain(10);
        x.days(0);
        x.feed(0, 0, 0, 0, 0);
        x.end(3);
        x.text(1);
        x.text(7);
        Words.tell(x, 2, "walk 1;");
        Words.tell(x, 0, "opens 5;");
        Words.tell(x, 3, "");
        x.blow(1);
        x.blow(0);
        x.owes(0, 1, 1);
        x.owes(-1, 0, 0);
        x.has(0, 1);
        x.spell(0);
        x.answer(0, 1);
        x.face(1, 1);
        x.goes(5, 0);
        x.shortest(0, 0);
        x.letter(0, 5);
        CHECK.due("one to undo still", x.look(15), 1);
        CHECK.due("undo", x.undo(), true);
        CHECK.due("the posting is undone", x.look(1), 0);
    }

    private static void textsStay() {
        KindPostman x = withLetter();
        x.door(0, 0, 0);
        x.rain(2);
        Words.tell(x, 0, "gives 3; tires 2;");
        Words.tell(x, 3, "street 0 1 8;");
        x.blow(-5);
        x.has(0, 4);
        x.spell(0);
        x.undo();
        CHECK.due("rain is undone", x.look(7), 0);
        CHECK.due("the law stays", x.look(11), 2);
        CHECK.due("what it tells, too", x.letter(0, 6), 3);
        CHECK.due("streets stay", x.of(0, 11), 8);
        CHECK.due("blows stay", x.bears(10, 1), 5);
        CHECK.due("words stay", x.lays(0), 4);
    }

    private static void imageNone() {
        KindPostman x = withLetter();
        CHECK.due("there is none", x.image(false), false);
        CHECK.due("nothing is forgotten", x.look(15), 1);
        CHECK.due("nothing changes", x.look(1), 1);
    }

    private static void image() {
        KindPostman x = withLetter();
        Words.tell(x, 1, "on 5 to 0 kiss 1;");
        Words.tell(x, 2, "walk 0; walk 0;");
        x.door(0, 0, 0);
        Words.tell(x, 3, "street 0 1 7;");
        tellThoughts(x, 1);
        x.rain(3);
        int[] then = all(x);
        CHECK.due("taken", x.image(true), true);
        CHECK.due("it forgets nothing", x.look(15), 1);
        for (int round = 0; round < 2; round++) {
            x.days(3);
            x.bring(0);
            x.rain(9);
            x.state(77);
            x.door(1, 1, 1);
            x.set(1, 0, 9);
            Words.tell(x, 0, "");
            Words.tell(x, 1, "");
            Words.tell(x, 2, "walk 1;");
            Words.tell(x, 3, "street 0 1 1;");
            tellThoughts(x, 0);
            Words.tell(x, 0, "opens ?");
            x.feed(0, 0, 0, 0, 0);
            CHECK.due("gone back", x.image(false), true);
            int[] again = all(x);
            for (int i = 0; i < then.length; i++) {
                CHECK.due("as it was " + i, again[i], i == 15 ? 0 : then[i]);
            }
            CHECK.due("love", x.of(0, 1), 4);
            CHECK.due("the street", x.of(1, 10), 7);
            CHECK.due("the book", x.book(0, 3), 0);
            CHECK.due("the letter", x.letter(0, 3), 20);
            CHECK.due("its opens by the law", x.letter(0, 5), 1000);
            CHECK.due("blows", x.bears(50, 1), 30);
            CHECK.due("debts", x.net(3), 9);
            CHECK.due("words", x.lays(0), 5);
            CHECK.due("orders", x.lays(1), 1);
            CHECK.due("answers", x.likely(2, 0), 3);
            CHECK.due("faces", x.faces(1), 2);
            CHECK.due("the fault is not of the image", x.fault(0), 1);
            CHECK.due("its place", x.fault(1), 6);
            CHECK.due("the tape is not of the image", x.end(20), true);
            x.end(0);
        }
        CHECK.due("one blow more", x.blow(1), 2);
        CHECK.due("one debt more", x.owes(0, 1, 1), 2);
        CHECK.due("one letter more", x.spell(1), 2);
        CHECK.due("one answer more", x.answer(0, 1), 2);
        CHECK.due("one face more", x.face(1, 1), 2);
        CHECK.due("both faces", x.faces(0), 3 * 7 * 7 * 7 * 7);
        Words.tell(x, 0, "opens 1000;");
        CHECK.due("the round and the post go on", x.days(6), 2);
    }

    private static void tellThoughts(KindPostman x, int what) {
        x.blow(0);
        x.owes(-1, 0, 0);
        x.spell(-1);
        x.answer(-1, 0);
        x.face(-1, 0);
        x.has(6, 0);
        if (what == 1) {
            x.blow(-20);
            x.owes(2, 3, 9);
            x.has(6, 5);
            x.spell(6);
            x.answer(2, 3);
            x.face(2, -1);
        } else {
            x.blow(20);
            x.blow(20);
            x.spell(7);
            x.spell(8);
            x.owes(5, 6, 1);
            x.owes(5, 6, 1);
            x.answer(4, 4);
            x.answer(4, 4);
            x.face(1, 1);
            x.face(4, 1);
        }
    }

    private static void imageTwice() {
        KindPostman x = new KindPostman();
        x.rain(1);
        x.image(true);
        x.rain(2);
        x.image(true);
        x.rain(3);
        x.image(false);
        CHECK.due("the latest image", x.look(7), 2);
        x.rain(5);
        x.undo();
        CHECK.due("undo behind it", x.look(7), 2);
        KindPostman y = withLetter();
        y.image(true);
        y.undo();
        CHECK.due("the posting is undone", y.look(1), 0);
        y.image(false);
        CHECK.due("as it was when it was taken", y.look(1), 1);
        CHECK.due("numbers go on from there", y.post(0, 0, 1), 1);
        KindPostman z = withLetter();
        z.image(true);
        z.undo();
        z.post(0, 3, 9);
        z.bring(0);
        z.image(false);
        CHECK.due("the book as it was", z.look(9), 1);
        z.post(0, 3, 9);
        z.bring(1);
        z.image(false);
        z.door(0, 0, 0);
        z.post(1, 2, 8);
        z.image(true);
        z.undo();
        z.post(0, 6, 7);
        CHECK.due("written over", z.book(1, 3), 0);
        z.image(false);
        CHECK.due("the book's lines as they were", z.book(1, 3), 1);
    }

    private static void looks() {
        KindPostman x = withLetter();
        Words.tell(x, 0, "opens 1000; gives 1; tires 1;");
        Words.tell(x, 1, "on 5 to 0 kiss 1; on 5 to 0 kiss 1;");
        Words.tell(x, 2, "walk 0;");
        x.door(0, 0, 0);
        Words.tell(x, 3, "street 0 1 7; street 0 1 7; street 0 1 7; street 0 1 7;");
        x.post(0, 0, 60);
        x.set(3, 0, 44);
        x.set(4, 0, 33);
        x.state(9);
        x.rain(6);
        x.bring(1);
        int[] due = {2, 1, 49, 33, 1, 0, 1, 6, 0, 3, 1664525 * 9 + 1013904223, 3, 2, 1, 4, 2};
        for (int what = 0; what < 16; what++) {
            CHECK.due("look(" + what + ")", x.look(what), due[what]);
        }
        Words.tell(x, 0, "opens 0;");
        x.days(9);
        CHECK.due("lost", x.look(5), 1);
        CHECK.due("day", x.look(8), 9);
        int[] others = {-1, 16, Integer.MIN_VALUE, Integer.MAX_VALUE};
        for (int what : others) {
            CHECK.due("look(" + what + ")", x.look(what), -1);
        }
    }
}
