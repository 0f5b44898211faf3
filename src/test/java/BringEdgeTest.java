/**
 * The edges of Terms 1 and of what it is to BRING (Terms 3): limits, what is at first, draws, what is given, faces,
 * blows, food, sorrow, hours, the bag, numbers and the book.
 */
public final class BringEdgeTest {
    private static final Check CHECK = new Check();
    private static final int NEWS = 0;
    private static final int BILL = 1;
    private static final int KISS = 2;
    private static final int ANGER = 3;
    private static final int INVITATION = 4;
    private static final int TEXT = 5;
    private static final int JOKE = 6;

    public static void main(String[] args) {
        atFirst();
        limitsOfDoors();
        limitsOfLetters();
        limitsOfThePostman();
        drawsWrap();
        drawsDecide();
        drawsAtTheEnds();
        bills();
        facesAreHeld();
        blowsTakeHealth();
        invitationsTakeHunger();
        sorrowByMuch();
        sorrowHeals();
        gotAndGone();
        hours();
        tiresIsAskedBehindTheRest();
        givesIsAskedBeforeTheRest();
        theBagHoldsTwentyFour();
        numbers();
        theBookHolds150();
        toTheLastCall();
        CHECK.end();
    }

    private static KindPostman withDoor(int face, int love, int purse, String law) {
        KindPostman x = new KindPostman();
        x.door(face, love, purse);
        Words.tell(x, 0, law);
        return x;
    }

    private static KindPostman open() {
        return withDoor(0, 0, 0, "opens 1000;");
    }

    private static void atFirst() {
        CHECK.about("(an int, 0 at first) .. (99 at first) .. An empty bag");
        KindPostman x = new KindPostman();
        for (int what = 0; what < 16; what++) {
            CHECK.due("look(" + what + ")", x.look(what), what == 2 ? 99 : 0);
        }
        for (int kind = 0; kind < 7; kind++) {
            CHECK.due("given(" + kind + ")", x.given(kind), 0);
        }
        CHECK.due("no letter", x.letter(0, 0), -1);
        CHECK.due("no line", x.book(0, 0), -2);
        CHECK.due("the first state", x.state(1), 0);
        x.door(1, 2, 3);
        int[] door = {1, 2, 3, 0, 0};
        for (int what = 0; what < 5; what++) {
            CHECK.due("of(0, " + what + ") at first", x.of(0, what), door[what]);
        }
        x.post(0, JOKE, 9);
        CHECK.due("AGE at first", x.letter(0, 4), 0);
        x.undo();
        CHECK.due("the next is at first, too", x.post(0, JOKE, 9), 0);
    }

    private static void limitsOfDoors() {
        CHECK.about("DOORS 0 .. 11 as they come: FACE -9 .. 9, LOVE 0 .. 9, PURSE 0 .. 999");
        int[][] edges = {{-9, 9}, {0, 9}, {0, 999}};
        for (int what = 0; what < 3; what++) {
            for (int v = edges[what][0] - 1; v <= edges[what][1] + 1; v++) {
                boolean can = v >= edges[what][0] && v <= edges[what][1];
                KindPostman x = new KindPostman();
                int[] door = {0, 0, 0};
                door[what] = v;
                CHECK.due("door with " + v + " as " + what, x.door(door[0], door[1], door[2]), can ? 0 : -1);
                CHECK.due("of(0, " + what + ")", x.of(0, what), can ? v : -100);
                KindPostman y = new KindPostman();
                y.door(1, 1, 1);
                CHECK.due("set(" + what + ", 0, " + v + ")", y.set(what, 0, v), can);
                CHECK.due("of(0, " + what + ") behind set", y.of(0, what), can ? v : 1);
            }
        }
        KindPostman x = new KindPostman();
        for (int d = 0; d < 12; d++) {
            CHECK.due("set of door " + d + " that is not there yet", x.set(0, d, 5), false);
            CHECK.due("door " + d, x.door(0, 0, 0), d);
            CHECK.due("set of door " + d, x.set(0, d, 5), true);
        }
        CHECK.due("set of door 12", x.set(0, 12, 5), false);
        CHECK.due("set of door -1", x.set(0, -1, 5), false);
        CHECK.due("the thirteenth", x.door(0, 0, 0), -1);
    }

    private static void limitsOfLetters() {
        CHECK.about("KINDS 0 .. 6; LETTERS: MUCH 1 .. 99");
        for (int kind = -1; kind <= 7; kind++) {
            KindPostman x = open();
            boolean can = kind >= 0 && kind < 7;
            CHECK.due("a letter of kind " + kind, x.post(0, kind, 5), can ? 0 : -1);
            CHECK.due("its kind", x.letter(0, 2), can ? kind : -1);
            CHECK.due("given(" + kind + ")", x.given(kind), can ? 0 : -1);
        }
        for (int much = 0; much <= 100; much++) {
            KindPostman x = open();
            boolean can = much >= 1 && much <= 99;
            CHECK.due("a letter of " + much, x.post(0, TEXT, much), can ? 0 : -1);
            CHECK.due("its much", x.letter(0, 3), can ? much : -1);
        }
        KindPostman x = open();
        x.door(0, 0, 0);
        for (int door = -1; door <= 2; door++) {
            CHECK.due("a letter to door " + door, x.post(door, TEXT, 1) >= 0, door == 0 || door == 1);
        }
    }

    private static void limitsOfThePostman() {
        CHECK.about("HEALTH 0 .. 99, HUNGER 0 .. 99, RAIN 0 .. 9");
        for (int v = -1; v <= 100; v++) {
            KindPostman x = new KindPostman();
            boolean can = v >= 0 && v <= 99;
            CHECK.due("set(3, -1, " + v + ")", x.set(3, -1, v), can);
            CHECK.due("HEALTH", x.look(2), can ? v : 99);
            CHECK.due("set(4, 12, " + v + ")", x.set(4, 12, v), can);
            CHECK.due("HUNGER", x.look(3), can ? v : 0);
        }
        for (int v = -1; v <= 10; v++) {
            KindPostman x = new KindPostman();
            x.rain(5);
            boolean can = v >= 0 && v <= 9;
            CHECK.due("rain(" + v + ")", x.rain(v), can);
            CHECK.due("RAIN", x.look(7), can ? v : 5);
        }
    }

    private static void drawsWrap() {
        CHECK.about("it becomes 1664525 times itself + 1013904223 (ints, which wrap)");
        int[] states = {0, 1, -1, 2, 1000, Integer.MAX_VALUE, Integer.MIN_VALUE, 123456789, -987654321};
        for (int state : states) {
            KindPostman x = open();
            x.post(0, TEXT, 1);
            x.state(state);
            x.bring(0);
            long exact = 1664525L * state + 1013904223L;
            CHECK.due("STATE behind " + state, x.look(10), (int) exact);
        }
    }

    private static int drawFrom(int state) {
        long next = (1664525L * state + 1013904223L) & 0xffffffffL;
        return (int) ((next >> 8) % 1000);
    }

    private static int given(int state, int opens) {
        KindPostman x = withDoor(0, 0, 0, "opens " + opens + ";");
        x.post(0, TEXT, 7);
        x.state(state);
        return x.bring(0);
    }

    private static void drawsDecide() {
        CHECK.about("its highest 24 bits (without sign) modulo m; a DRAW of 1000: below it it is opened");
        for (int i = 0; i < 40; i++) {
            int state = i * 107374183;
            int draw = drawFrom(state);
            CHECK.due("opens " + draw + " at STATE " + state, given(state, draw), -1);
            CHECK.due("opens " + (draw + 1) + " at STATE " + state, given(state, draw + 1), 7);
        }
    }

    private static int stateThatDraws(int draw) {
        int state = 0;
        while (drawFrom(state) != draw) {
            state++;
        }
        return state;
    }

    private static void drawsAtTheEnds() {
        CHECK.about("opens held to 0 .. 1000; below it it is opened");
        int least = stateThatDraws(0);
        int most = stateThatDraws(999);
        CHECK.due("opens 0, the least draw", given(least, 0), -1);
        CHECK.due("opens 1, the least draw", given(least, 1), 7);
        CHECK.due("opens 999, the greatest draw", given(most, 999), -1);
        CHECK.due("opens 1000, the greatest draw", given(most, 1000), 7);
        CHECK.due("opens 9999, the greatest draw", given(most, 9999), 7);
    }

    private static void bills() {
        CHECK.about("(a bill: no more than PURSE, and PURSE so much less)");
        int[][] cases = {{20, 20}, {20, 19}, {20, 21}, {0, 1}, {1, 1}, {999, 99}, {99, 99}, {98, 99}};
        for (int[] c : cases) {
            KindPostman x = withDoor(0, 0, c[0], "opens 1000;");
            x.post(0, BILL, c[1]);
            int paid = Math.min(c[0], c[1]);
            CHECK.due("a bill of " + c[1] + " to a purse of " + c[0], x.bring(0), paid);
            CHECK.due("PURSE", x.of(0, 2), c[0] - paid);
            CHECK.due("given", x.given(BILL), paid);
            CHECK.due("the book", x.book(1, 3), paid);
            CHECK.due("FACE", x.of(0, 0), -1);
        }
        for (int kind = 0; kind < 7; kind++) {
            KindPostman x = withDoor(0, 0, 3, "opens 1000;");
            x.post(0, kind, 9);
            CHECK.due("kind " + kind + " of 9 to a purse of 3", x.bring(0), kind == BILL ? 3 : 9);
            CHECK.due("PURSE behind kind " + kind, x.of(0, 2), kind == BILL ? 0 : 3);
        }
    }

    private static void facesAreHeld() {
        CHECK.about("(FACE -9 .. 9 held.)");
        int[] change = {-1, -1, 1, -1, 0, 0, 2};
        for (int kind = 0; kind < 7; kind++) {
            for (int face = -9; face <= 9; face++) {
                KindPostman x = withDoor(face, 0, 9, "opens 1000;");
                x.post(0, kind, 1);
                x.bring(0);
                int due = Math.max(-9, Math.min(9, face + change[kind]));
                CHECK.due("FACE " + face + " by kind " + kind, x.of(0, 0), due);
            }
        }
    }

    private static void blowsTakeHealth() {
        CHECK.about("anger: HEALTH less by what was given (0 at least)");
        int[][] cases = {{20, 19, 1}, {20, 20, 0}, {20, 21, 0}, {99, 99, 0}, {99, 98, 1}, {1, 1, 0}, {1, 99, 0}};
        for (int[] c : cases) {
            KindPostman x = open();
            x.set(3, 0, c[0]);
            x.post(0, ANGER, c[1]);
            CHECK.due("anger of " + c[1], x.bring(0), c[1]);
            CHECK.due("HEALTH " + c[0] + " by anger of " + c[1], x.look(2), c[2]);
            CHECK.due("HUNGER by anger", x.look(3), 0);
        }
        KindPostman x = withDoor(0, 0, 0, "opens 1000; gives 3;");
        x.post(0, ANGER, 90);
        CHECK.due("what was given", x.bring(0), 3);
        CHECK.due("HEALTH less by what was given, not by MUCH", x.look(2), 96);
    }

    private static void invitationsTakeHunger() {
        CHECK.about("invitation: HUNGER less by what was given (0 at least)");
        int[][] cases = {{20, 19, 1}, {20, 20, 0}, {20, 21, 0}, {99, 99, 0}, {99, 98, 1}, {0, 1, 0}};
        for (int[] c : cases) {
            KindPostman x = open();
            x.set(4, 0, c[0]);
            x.post(0, INVITATION, c[1]);
            CHECK.due("an invitation of " + c[1], x.bring(0), c[1]);
            CHECK.due("HUNGER " + c[0] + " by " + c[1], x.look(3), c[2]);
            CHECK.due("HEALTH by an invitation", x.look(2), 99);
        }
        KindPostman x = withDoor(0, 0, 0, "opens 1000; gives 3;");
        x.set(4, 0, 50);
        x.post(0, INVITATION, 90);
        x.bring(0);
        CHECK.due("HUNGER less by what was given, not by MUCH", x.look(3), 47);
    }

    private static void sorrowByMuch() {
        CHECK.about("Is it news of MUCH 50 at least, SAT one more");
        int[][] cases = {{1, 0}, {49, 0}, {50, 1}, {51, 1}, {99, 1}};
        for (int[] c : cases) {
            for (int kind = 0; kind < 7; kind++) {
                KindPostman x = open();
                x.post(0, kind, c[0]);
                x.bring(0);
                CHECK.due("SAT by kind " + kind + " of " + c[0], x.look(4), kind == NEWS ? c[1] : 0);
            }
        }
        KindPostman most = withDoor(0, 0, 0, "opens 1000; gives 99;");
        most.post(0, NEWS, 49);
        most.bring(0);
        CHECK.due("MUCH 49, however much is given", most.look(4), 0);
        KindPostman least = withDoor(0, 0, 0, "opens 1000; gives 0;");
        least.post(0, NEWS, 50);
        CHECK.due("nothing is given", least.bring(0), 0);
        CHECK.due("MUCH 50, however little is given", least.look(4), 1);
        KindPostman shut = withDoor(0, 0, 0, "opens 0;");
        shut.post(0, NEWS, 99);
        shut.bring(0);
        CHECK.due("not opened", shut.look(4), 0);
    }

    private static void sorrowHeals() {
        CHECK.about("HEALTH 5 more (99 at most)");
        int[][] cases = {{1, 6}, {93, 98}, {94, 99}, {95, 99}, {98, 99}, {99, 99}};
        for (int[] c : cases) {
            KindPostman x = open();
            x.set(3, 0, c[0]);
            x.post(0, NEWS, 50);
            x.bring(0);
            CHECK.due("HEALTH " + c[0] + " by news of 50", x.look(2), c[1]);
            x.set(3, 0, c[0]);
            x.post(0, NEWS, 49);
            x.bring(1);
            CHECK.due("HEALTH " + c[0] + " by news of 49", x.look(2), c[0]);
        }
    }

    private static void gotAndGone() {
        CHECK.about("GOT of the DOOR one more, the LETTER is gone. Not opened: it stays in THE BAG");
        KindPostman x = open();
        x.door(0, 0, 0);
        x.post(1, TEXT, 1);
        x.post(0, TEXT, 2);
        x.post(1, TEXT, 3);
        x.bring(1);
        CHECK.due("GOT of 0", x.of(0, 3), 1);
        CHECK.due("GOT of 1", x.of(1, 3), 0);
        CHECK.due("two are left", x.look(1), 2);
        CHECK.due("the first", x.letter(0, 3), 1);
        CHECK.due("the second", x.letter(1, 3), 3);
        CHECK.due("it is gone", x.bring(1), -2);
        Words.tell(x, 0, "opens 0;");
        CHECK.due("not opened", x.bring(0), -1);
        CHECK.due("it stays", x.letter(0, 0), 0);
        CHECK.due("GOT of 1 still", x.of(1, 3), 0);
        CHECK.due("it can be brought again", x.bring(0), -1);
    }

    private static void hours() {
        CHECK.about("Either way HOUR is tires more (99 at most)");
        int[] opens = {0, 1000};
        for (int o : opens) {
            KindPostman x = withDoor(0, 0, 0, "opens " + o + "; tires 20 when much = 1; tires 19 when much = 2;");
            int[] much = {1, 1, 1, 1, 2};
            for (int i = 0; i < 5; i++) {
                x.post(0, TEXT, much[i]);
                x.bring(i);
            }
            CHECK.due("HOUR, opens " + o, x.look(6), 99);
            x.undo();
            CHECK.due("HOUR before it, opens " + o, x.look(6), 80);
            x.post(0, TEXT, 1);
            x.bring(5);
            CHECK.due("HOUR 80 and 20 more, opens " + o, x.look(6), 99);
            x.post(0, TEXT, 9);
            x.bring(6);
            CHECK.due("HOUR 99 and 1 more, opens " + o, x.look(6), 99);
        }
        KindPostman x = withDoor(0, 0, 0, "opens 1000; tires 0;");
        x.post(0, TEXT, 1);
        x.bring(0);
        CHECK.due("tires 0", x.look(6), 0);
    }

    private static int hourBehind(int kind, int much, String tires) {
        KindPostman x = withDoor(3, 0, 30, "opens 1000; tires " + tires + ";");
        x.set(3, 0, 50);
        x.set(4, 0, 50);
        x.post(0, kind, much);
        x.bring(0);
        return x.look(6);
    }

    private static void tiresIsAskedBehindTheRest() {
        CHECK.about("HOUR is tires more (asked behind the rest)");
        CHECK.due("FACE behind a joke", hourBehind(JOKE, 1, "face"), 5);
        CHECK.due("FACE behind news", hourBehind(NEWS, 1, "face"), 2);
        CHECK.due("PURSE behind a bill", hourBehind(BILL, 25, "purse"), 5);
        CHECK.due("HEALTH behind anger", hourBehind(ANGER, 40, "health"), 10);
        CHECK.due("HEALTH behind sorrow", hourBehind(NEWS, 50, "health - 40"), 15);
        CHECK.due("HUNGER behind an invitation", hourBehind(INVITATION, 40, "hunger"), 10);
        CHECK.due("the gone letter's MUCH", hourBehind(TEXT, 17, "much"), 17);
        CHECK.due("the gone letter's KIND", hourBehind(JOKE, 17, "kind"), 6);
    }

    private static void givesIsAskedBeforeTheRest() {
        CHECK.about("gives is asked; he is given so much of its KIND .. then by KIND");
        KindPostman x = withDoor(3, 0, 30, "opens 1000; gives face;");
        x.post(0, JOKE, 9);
        CHECK.due("FACE before the joke", x.bring(0), 3);
        CHECK.due("FACE behind it", x.of(0, 0), 5);
        KindPostman y = withDoor(3, 0, 30, "opens 1000; gives purse;");
        y.post(0, BILL, 9);
        CHECK.due("PURSE before the bill", y.bring(0), 30);
        CHECK.due("PURSE behind it", y.of(0, 2), 0);
        KindPostman z = withDoor(3, 0, 30, "opens 1000; gives hour + 9;");
        z.post(0, TEXT, 1);
        CHECK.due("HOUR before it", z.bring(0), 9);
    }

    private static void theBagHoldsTwentyFour() {
        CHECK.about("(24 lie in it at most)");
        KindPostman x = open();
        for (int i = 0; i < 24; i++) {
            CHECK.due("letter " + i, x.post(0, TEXT, 1 + i), i);
        }
        CHECK.due("the 25th", x.post(0, TEXT, 1), -1);
        CHECK.due("look(1)", x.look(1), 24);
        CHECK.due("of(0, 4)", x.of(0, 4), 24);
        CHECK.due("the last", x.letter(23, 3), 24);
        CHECK.due("letter(24, 0)", x.letter(24, 0), -1);
        CHECK.due("LOST", x.look(5), 0);
        CHECK.due("the last is brought", x.bring(23), 24);
        CHECK.due("there is room for one", x.post(0, TEXT, 1), 24);
        CHECK.due("for one alone", x.post(0, TEXT, 1), -1);
        CHECK.due("the first is brought", x.bring(0), 1);
        CHECK.due("there is room again", x.post(0, TEXT, 1), 25);
    }

    private static void numbers() {
        CHECK.about("LETTERS have numbers from 0 on in the order in which they came, gone ones keep theirs");
        KindPostman x = open();
        for (int i = 0; i < 30; i++) {
            CHECK.due("the number", x.post(0, TEXT, 1), i);
            CHECK.due("it is brought", x.bring(i), 1);
            CHECK.due("it keeps its number in the book", x.book(2 * i + 1, 2), i);
        }
    }

    private static void theBookHolds150() {
        CHECK.about("THE BOOK (150 lines; no more then)");
        KindPostman x = open();
        for (int i = 0; i < 74; i++) {
            x.post(0, TEXT, 1);
            x.bring(i);
        }
        CHECK.due("148 lines", x.look(9), 148);
        x.post(0, TEXT, 5);
        CHECK.due("149 lines", x.look(9), 149);
        CHECK.due("line 149 is none", x.book(149, 0), -2);
        x.post(0, TEXT, 6);
        CHECK.due("150 lines", x.look(9), 150);
        CHECK.due("line 149", x.book(149, 2), 75);
        CHECK.due("what is not booked is done", x.bring(75), 6);
        CHECK.due("150 lines still", x.look(9), 150);
        CHECK.due("line 149 still", x.book(149, 1), 0);
        CHECK.due("line 150 is none", x.book(150, 0), -2);
        CHECK.due("posted beyond the book", x.post(0, TEXT, 1), 76);
        CHECK.due("150 lines yet", x.look(9), 150);
        x.undo();
        x.undo();
        CHECK.due("150 lines before", x.look(9), 150);
        x.undo();
        CHECK.due("149 lines before", x.look(9), 149);
        CHECK.due("line 149 is none again", x.book(149, 0), -2);
        x.bring(74);
        CHECK.due("line 149 anew", x.book(149, 1), 1);
        CHECK.due("what was given", x.book(149, 3), 5);
    }

    /** One call for the door, three for THE LAW, 253 times two, and two more. */
    private static void toTheLastCall() {
        CHECK.about("An object is used for at most 512 calls after it has been made");
        KindPostman x = open();
        for (int i = 0; i < 253; i++) {
            CHECK.due("the number " + i, x.post(0, TEXT, 99), i);
            CHECK.due("what was given for " + i, x.bring(i), 99);
        }
        CHECK.due("given in all, call 511", x.given(TEXT), 253 * 99);
        CHECK.due("GOT, call 512", x.of(0, 3), 253);
    }
}
