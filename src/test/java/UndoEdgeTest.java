import java.util.ArrayDeque;
import java.util.Deque;
import java.util.function.Consumer;

/** The edges of UNDO and THE IMAGE (Terms 4) and of promises 35 to 37. */
public final class UndoEdgeTest {
    private static final Check CHECK = new Check();

    public static void main(String[] args) {
        sixAreKept();
        sixOfEachKind();
        manyDays();
        thereAndBackAgain();
        numbersAndBookGoBack();
        whatForgets();
        whatForgetsNothing();
        behindForgetting();
        imageOfNone();
        imageMoreThanOnce();
        imageIsTheLatest();
        imageOfAFullOne();
        imageOfAnEmptyOne();
        undoLeavesTheImage();
        looks();
        CHECK.end();
    }

    private static KindPostman withLetters(int letters) {
        KindPostman x = new KindPostman();
        x.door(0, 0, 0);
        Words.tell(x, 0, "opens 1000;");
        for (int i = 0; i < letters; i++) {
            x.post(0, 5, i + 1);
        }
        x.set(4, 0, 0);
        return x;
    }

    private static void sixAreKept() {
        CHECK.about("6 are kept");
        for (int done = 0; done <= 9; done++) {
            KindPostman x = new KindPostman();
            for (int i = 1; i <= done; i++) {
                x.rain(i);
            }
            int kept = Math.min(6, done);
            CHECK.due("kept of " + done, x.look(15), kept);
            for (int i = 1; i <= kept; i++) {
                CHECK.due("undo " + i + " of " + done, x.undo(), true);
                CHECK.due("rain behind undo " + i + " of " + done, x.look(7), done - i);
                CHECK.due("kept behind undo " + i + " of " + done, x.look(15), kept - i);
            }
            CHECK.due("one more than " + kept, x.undo(), false);
            CHECK.due("rain behind all", x.look(7), done - kept);
        }
    }

    private static void sixOfEachKind() {
        CHECK.about("the latest DAY, POSTING, BRINGING, RAIN not undone yet goes back");
        for (int kind = 0; kind < 5; kind++) {
            KindPostman x = withLetters(8);
            Words.tell(x, 0, kind == 3 ? "opens 0;" : "opens 1000;");
            for (int i = 0; i < 7; i++) {
                switch (kind) {
                    case 0: x.days(1); break;
                    case 1: x.post(0, 5, 9); break;
                    case 2: case 3: x.bring(i); break;
                    default: x.rain(i + 1);
                }
                CHECK.due("deeds of kind " + kind, x.look(15), Math.min(6, i + 1));
            }
            for (int i = 0; i < 6; i++) {
                CHECK.due("undo of kind " + kind, x.undo(), true);
            }
            CHECK.due("six alone of kind " + kind, x.undo(), false);
            CHECK.due("DAY", x.look(8), kind == 0 ? 1 : 0);
            CHECK.due("letters", x.look(1), kind == 1 ? 9 : kind == 2 ? 7 : 8);
            CHECK.due("lines of the book", x.look(9), kind >= 1 && kind <= 3 ? 9 : 8);
            CHECK.due("RAIN", x.look(7), kind == 4 ? 1 : 0);
            CHECK.due("HOUR", x.look(6), kind == 2 || kind == 3 ? 1 : 0);
            CHECK.due("STATE", x.look(10), kind == 2 || kind == 3 ? 1013904223 : 0);
        }
    }

    private static void manyDays() {
        CHECK.about("the latest DAY goes back: 6 are kept");
        int[] numbers = {1, 5, 6, 7, 60};
        for (int n : numbers) {
            KindPostman x = new KindPostman();
            x.rain(1);
            x.days(n);
            int kept = Math.min(6, n + 1);
            CHECK.due("kept of days(" + n + ")", x.look(15), kept);
            for (int i = 1; i <= Math.min(6, n); i++) {
                CHECK.due("undo", x.undo(), true);
                CHECK.due("DAY", x.look(8), n - i);
                CHECK.due("HUNGER", x.look(3), Math.min(99, 5 * (n - i)));
            }
            CHECK.due("the rain before days(" + n + ")", x.undo(), n <= 5);
            CHECK.due("RAIN", x.look(7), n <= 5 ? 0 : 1);
        }
    }

    /** Done and undone again and again, held against a row of what RAIN was. */
    private static void thereAndBackAgain() {
        CHECK.about("the latest .. not undone yet");
        KindPostman x = new KindPostman();
        Deque<Integer> past = new ArrayDeque<>();
        int rain = 0;
        int[] plan = {4, -2, 5, -3, 1, -6, 6, -1, 2, -7, 9, -4, 3, -5, 1};
        for (int step : plan) {
            for (int i = 0; i < step; i++) {
                past.addLast(rain);
                if (past.size() > 6) {
                    past.removeFirst();
                }
                rain = (rain + 3) % 10;
                x.rain(rain);
            }
            for (int i = 0; i < -step; i++) {
                CHECK.due("undo", x.undo(), !past.isEmpty());
                rain = past.isEmpty() ? rain : past.removeLast();
                CHECK.due("RAIN", x.look(7), rain);
            }
            CHECK.due("kept", x.look(15), past.size());
        }
    }

    private static void numbersAndBookGoBack() {
        CHECK.about("goes back (STATE, THE BOOK, too)");
        KindPostman x = withLetters(1);
        x.days(2);
        x.bring(0);
        CHECK.due("a line more", x.look(9), 2);
        int[] line = {2, 1, 0, 1};
        for (int what = 0; what < 4; what++) {
            CHECK.due("book(1, " + what + ")", x.book(1, what), line[what]);
        }
        x.undo();
        CHECK.due("a line less", x.look(9), 1);
        CHECK.due("no such line", x.book(1, 0), -2);
        CHECK.due("STATE", x.look(10), 0);
        CHECK.due("AGE", x.letter(0, 4), 2);
        x.post(0, 6, 9);
        CHECK.due("another line there", x.book(1, 1), 0);
        x.undo();
        CHECK.due("the number is free again", x.post(0, 6, 9), 1);
    }

    private static void forgetting(String call, Consumer<KindPostman> told, int due) {
        KindPostman x = withLetters(3);
        x.image(true);
        x.days(4);
        x.bring(0);
        x.rain(5);
        CHECK.due("kept before " + call, x.look(15), 6);
        told.accept(x);
        CHECK.due("kept behind " + call, x.look(15), due);
        CHECK.due("undo behind " + call, x.undo(), due > 0);
    }

    private static void whatForgets() {
        CHECK.about("whatever else is told .. forgets them");
        forgetting("state", x -> x.state(0), 0);
        forgetting("door", x -> x.door(0, 0, 0), 0);
        forgetting("FACE", x -> x.set(0, 0, 0), 0);
        forgetting("LOVE", x -> x.set(1, 0, 0), 0);
        forgetting("PURSE", x -> x.set(2, 0, 0), 0);
        forgetting("HEALTH", x -> x.set(3, 0, 99), 0);
        forgetting("HUNGER", x -> x.set(4, 0, 0), 0);
        forgetting("POST", x -> Words.tell(x, 1, "on 0 to 0 kiss 1;"), 0);
        forgetting("an empty POST", x -> x.text(1), 0);
        forgetting("ROUND", x -> Words.tell(x, 2, "walk 0;"), 0);
        forgetting("an empty ROUND", x -> x.text(2), 0);
        forgetting("THE IMAGE gone back to", x -> x.image(false), 0);
    }

    private static void whatForgetsNothing() {
        CHECK.about("but THE LAW, STREETS and what is told for thought (the taking of THE IMAGE does not)");
        forgetting("THE LAW", x -> Words.tell(x, 0, "opens 1;"), 6);
        forgetting("an empty LAW", x -> x.text(0), 6);
        forgetting("STREETS", x -> Words.tell(x, 3, ""), 6);
        forgetting("BEARS", x -> x.blow(1), 6);
        forgetting("no BEARS", x -> x.blow(0), 6);
        forgetting("OWES", x -> x.owes(0, 1, 1), 6);
        forgetting("no OWES", x -> x.owes(-1, 0, 0), 6);
        forgetting("letters", x -> x.has(0, 1), 6);
        forgetting("WORD", x -> x.spell(0), 6);
        forgetting("no WORD", x -> x.spell(-1), 6);
        forgetting("ANSWERS", x -> x.answer(0, 0), 6);
        forgetting("no ANSWERS", x -> x.answer(-1, 0), 6);
        forgetting("FACES", x -> x.face(1, 1), 6);
        forgetting("no FACES", x -> x.face(-1, 0), 6);
        forgetting("THE IMAGE taken", x -> x.image(true), 6);
        forgetting("a POST with a fault", x -> Words.tell(x, 1, "on 0 to 1 kiss 1;"), 6);
        forgetting("a ROUND with a fault", x -> Words.tell(x, 2, "walk 1;"), 6);
        forgetting("no such text", x -> x.text(4), 6);
        forgetting("bytes on the TAPE", x -> x.feed(0, 0, 0, 0, 0), 6);
        forgetting("the end of the TAPE", x -> x.end(0), 6);
    }

    private static void behindForgetting() {
        CHECK.about("forgets them");
        KindPostman x = new KindPostman();
        for (int i = 1; i <= 6; i++) {
            x.rain(i);
        }
        x.state(9);
        x.rain(7);
        x.rain(8);
        CHECK.due("two since then", x.look(15), 2);
        x.undo();
        x.undo();
        CHECK.due("RAIN as it was then", x.look(7), 6);
        CHECK.due("STATE as it was told", x.look(10), 9);
        CHECK.due("no more", x.undo(), false);
    }

    private static void imageOfNone() {
        CHECK.about("false if there is none");
        KindPostman x = withLetters(2);
        x.rain(3);
        CHECK.due("none yet", x.image(false), false);
        CHECK.due("RAIN stays", x.look(7), 3);
        CHECK.due("kept", x.look(15), 1);
        CHECK.due("taken", x.image(true), true);
        CHECK.due("there is one now", x.image(false), true);
    }

    private static void imageMoreThanOnce() {
        CHECK.about("gone back to it may be more than once");
        KindPostman x = withLetters(2);
        x.image(true);
        for (int i = 1; i <= 5; i++) {
            x.rain(i);
            x.bring(0);
            x.days(i);
            CHECK.due("gone back", x.image(false), true);
            CHECK.due("RAIN", x.look(7), 0);
            CHECK.due("letters", x.look(1), 2);
            CHECK.due("DAY", x.look(8), 0);
            CHECK.due("lines", x.look(9), 2);
            CHECK.due("nothing can be undone", x.undo(), false);
        }
        CHECK.due("twice at once", x.image(false), true);
        CHECK.due("letters still", x.look(1), 2);
    }

    private static void imageIsTheLatest() {
        CHECK.about("as it was when it was taken");
        KindPostman x = new KindPostman();
        for (int i = 1; i <= 4; i++) {
            x.rain(i);
            x.image(true);
            x.rain(9);
            x.image(false);
            CHECK.due("the latest", x.look(7), i);
        }
        KindPostman y = withLetters(3);
        y.image(true);
        y.undo();
        y.bring(2);
        y.image(false);
        CHECK.due("what was done behind it is not in it", y.look(1), 3);
        CHECK.due("the letter lies there", y.letter(2, 0), 2);
    }

    private static void imageOfAFullOne() {
        CHECK.about("THE IMAGE: all that is and was told");
        KindPostman x = States.full();
        x.image(true);
        x.end(0);
        Words.tell(x, 0, "opens 1000;");
        Words.tell(x, 2, "walk 1;");
        x.days(9);
        x.blow(0);
        x.owes(-1, 0, 0);
        x.spell(-1);
        x.answer(-1, 0);
        x.face(-1, 0);
        x.has(0, 9);
        x.image(false);
        KindPostman twin = States.full();
        CHECK.due("what is not as it was", Seen.differences(Seen.still(x), Seen.still(twin)), "look(15)");
        CHECK.due("no thirteenth door", x.door(0, 0, 0), -1);
        CHECK.due("no 25th letter", x.post(0, 0, 1), -1);
        CHECK.due("no ninth blow", x.blow(1), -1);
        CHECK.due("no seventeenth debt", x.owes(0, 1, 1), -1);
        CHECK.due("no ninth letter of the word", x.spell(0), -1);
        CHECK.due("no thirteenth answer", x.answer(0, 0), -1);
        CHECK.due("no ninth face", x.face(0, 0), -1);
    }

    private static void imageOfAnEmptyOne() {
        CHECK.about("THE IMAGE: all that is and was told");
        KindPostman x = new KindPostman();
        x.image(true);
        x.door(3, 3, 3);
        x.door(4, 4, 4);
        Words.tell(x, 0, "opens 1000;");
        Words.tell(x, 1, "on 0 to 1 kiss 5;");
        Words.tell(x, 2, "walk 1;");
        Words.tell(x, 3, "street 0 1 9;");
        x.post(1, 0, 60);
        x.days(2);
        x.state(7);
        x.rain(7);
        x.image(false);
        CHECK.due("what is not as it was", Seen.differences(Seen.still(x), Seen.still(new KindPostman())), "");
        x.door(1, 1, 1);
        x.door(2, 2, 2);
        int[] door = {2, 2, 2, 0, 0};
        for (int what = 0; what < 5; what++) {
            CHECK.due("of(1, " + what + ") of a new door", x.of(1, what), door[what]);
        }
        CHECK.due("no street to it", x.of(1, 10), -1);
        CHECK.due("the first letter", x.post(1, 0, 1), 0);
    }

    private static void undoLeavesTheImage() {
        CHECK.about("as it was when it was taken; what can be undone (nothing then)");
        KindPostman x = withLetters(2);
        x.rain(5);
        x.image(true);
        CHECK.due("it can be undone still", x.undo(), true);
        CHECK.due("RAIN", x.look(7), 0);
        CHECK.due("gone back", x.image(false), true);
        CHECK.due("RAIN of the image", x.look(7), 5);
        CHECK.due("nothing can be undone then", x.undo(), false);
        CHECK.due("RAIN stays", x.look(7), 5);
    }

    private static void looks() {
        CHECK.about("What 0 DOORS, .. 15 what can be undone. NONE for another what. (STATE as it is.)");
        KindPostman x = new KindPostman();
        for (int what = -3; what <= 20; what++) {
            CHECK.due("look(" + what + ")", x.look(what), what < 0 || what > 15 ? -1 : what == 2 ? 99 : 0);
        }
        int[] states = {-1, -2, Integer.MIN_VALUE, Integer.MAX_VALUE};
        for (int state : states) {
            x.state(state);
            CHECK.due("STATE as it is", x.look(10), state);
        }
    }
}
