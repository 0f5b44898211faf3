import java.util.function.Supplier;
import java.util.function.ToLongFunction;

/**
 * Promises 2 to 37: each call that the document refuses answers as the promise says and changes nothing, and so
 * does each question that it answers. What "nothing" is: an object of which it was asked and a twin of which it was
 * not can't be told apart by any call behind it.
 */
public final class RefusedTest {
    private static final Check CHECK = new Check();
    private static final int LOWEST = Integer.MIN_VALUE;
    private static final int HIGHEST = Integer.MAX_VALUE;
    private static final Supplier<KindPostman> FRESH = States::fresh;
    private static final Supplier<KindPostman> RICH = States::rich;
    private static final Supplier<KindPostman> FULL = States::full;
    private static final Supplier<KindPostman> WEAK = States::weak;
    private static final Supplier<KindPostman> LATE = States::late;

    public static void main(String[] args) {
        states();
        doors();
        sets();
        posts();
        brings();
        rainAndDays();
        tapes();
        faults();
        ofs();
        lettersAndGivens();
        books();
        goes();
        shortest();
        bears();
        carries();
        owes();
        chains();
        words();
        answers();
        boxes();
        faces();
        joyAndGame();
        undoAndImage();
        looks();
        CHECK.end();
    }

    private static void refused(Supplier<KindPostman> state, String call, ToLongFunction<KindPostman> made, long due) {
        KindPostman x = state.get();
        CHECK.due(call, made.applyAsLong(x), due);
        CHECK.due("what changed by " + call, Seen.differences(Seen.all(x), Seen.all(state.get())), "");
    }

    private static void refused(Supplier<KindPostman> state, String call, ToLongFunction<KindPostman> made,
            boolean due) {
        refused(state, call, made, due ? 1 : 0);
    }

    private static long bit(boolean b) {
        return b ? 1 : 0;
    }

    /** The states are what the others count on. */
    private static void states() {
        KindPostman x = States.rich();
        int[] rich = {3, 5, 66, 40, 1, 1, 1, 4, 11, 15, drawn(77, 4), 2, 2, 1, 2, 4};
        for (int what = 0; what < 16; what++) {
            CHECK.due("rich: look(" + what + ")", x.look(what), rich[what]);
        }
        CHECK.due("rich: a fault", x.fault(0), 1);
        KindPostman y = States.full();
        int[] full = {12, 24, 99, 10, 0, 0, 0, 4, 2, 150, drawn(0, 2 * 16 * 8), 2, 0, 16, 0, 6};
        for (int what = 0; what < 16; what++) {
            CHECK.due("full: look(" + what + ")", y.look(what), full[what]);
        }
        CHECK.due("weak", States.weak().look(2), 0);
        CHECK.due("late", States.late().look(8), 9999);
    }

    /** STATE behind so many draws. */
    private static int drawn(int state, int draws) {
        int then = state;
        for (int i = 0; i < draws; i++) {
            then = 1664525 * then + 1013904223;
        }
        return then;
    }

    private static void doors() {
        CHECK.about("A DOOR: the number; NONE if one can't be, or there are twelve");
        int[][] wrong = {{-10, 0, 0}, {10, 0, 0}, {0, -1, 0}, {0, 10, 0}, {0, 0, -1}, {0, 0, 1000}, {LOWEST, 0, 0},
            {HIGHEST, 0, 0}, {0, LOWEST, 0}, {0, HIGHEST, 0}, {0, 0, LOWEST}, {0, 0, HIGHEST}};
        for (int[] w : wrong) {
            refused(RICH, "door(" + w[0] + ", " + w[1] + ", " + w[2] + ")", x -> x.door(w[0], w[1], w[2]), -1);
        }
        refused(FULL, "a thirteenth door", x -> x.door(0, 0, 0), -1);
        refused(FULL, "a thirteenth door that can't be", x -> x.door(10, 0, 0), -1);
    }

    private static void sets() {
        CHECK.about("true; false if one can't be, or another what");
        int[][] wrong = {{0, 0, -10}, {0, 0, 10}, {1, 0, -1}, {1, 0, 10}, {2, 0, -1}, {2, 0, 1000}, {3, 0, -1},
            {3, 0, 100}, {4, 0, -1}, {4, 0, 100}, {0, -1, 0}, {1, -1, 0}, {2, -1, 0}, {0, 3, 0}, {1, 3, 0}, {2, 3, 0},
            {-1, 0, 0}, {5, 0, 0}, {LOWEST, 0, 0}, {HIGHEST, 0, 0}, {0, HIGHEST, 0}, {0, LOWEST, 0}, {3, 0, LOWEST},
            {4, 0, HIGHEST}};
        for (int[] w : wrong) {
            refused(RICH, "set(" + w[0] + ", " + w[1] + ", " + w[2] + ")", x -> bit(x.set(w[0], w[1], w[2])), false);
        }
        refused(FRESH, "set(0, 0, 0) without doors", x -> bit(x.set(0, 0, 0)), false);
        refused(FULL, "set(0, 12, 0)", x -> bit(x.set(0, 12, 0)), false);
    }

    private static void posts() {
        CHECK.about("To POST: the LETTER; NONE if it can't be, or THE BAG is full");
        int[][] wrong = {{-1, 0, 1}, {3, 0, 1}, {0, -1, 1}, {0, 7, 1}, {0, 0, 0}, {0, 0, 100}, {LOWEST, 0, 1},
            {HIGHEST, 0, 1}, {0, LOWEST, 1}, {0, HIGHEST, 1}, {0, 0, LOWEST}, {0, 0, HIGHEST}};
        for (int[] w : wrong) {
            refused(RICH, "post(" + w[0] + ", " + w[1] + ", " + w[2] + ")", x -> x.post(w[0], w[1], w[2]), -1);
        }
        refused(FRESH, "post(0, 0, 1) without doors", x -> x.post(0, 0, 1), -1);
        refused(FULL, "post into a full bag", x -> x.post(0, 5, 1), -1);
        refused(FULL, "post(12, 0, 1)", x -> x.post(12, 0, 1), -1);
    }

    private static void brings() {
        CHECK.about("NONE - 1 if it is not in THE BAG, or HEALTH is 0");
        int[] gone = {0, 1, 2, 3, 8, 10, -1, LOWEST, HIGHEST};
        for (int number : gone) {
            refused(RICH, "bring(" + number + ")", x -> x.bring(number), -2);
        }
        refused(FRESH, "bring(0) from an empty bag", x -> x.bring(0), -2);
        refused(WEAK, "bring(0) with HEALTH 0", x -> x.bring(0), -2);
        refused(WEAK, "bring(5) with HEALTH 0", x -> x.bring(5), -2);
    }

    private static void rainAndDays() {
        CHECK.about("To let it RAIN: true; false if it can't be");
        for (int v : new int[] {-1, 10, LOWEST, HIGHEST}) {
            refused(RICH, "rain(" + v + ")", x -> bit(x.rain(v)), false);
        }
        CHECK.about("NONE, and nothing is done, if one can't be, or DAY would be above 9999");
        for (int n : new int[] {0, -1, 61, LOWEST, HIGHEST}) {
            refused(RICH, "days(" + n + ")", x -> x.days(n), -1);
        }
        for (int n : new int[] {1, 2, 60, 61, 0, HIGHEST}) {
            refused(LATE, "days(" + n + ") at DAY 9999", x -> x.days(n), -1);
        }
        refused(() -> States.early(38), "days(2) at DAY 9998", x -> x.days(2), -1);
        refused(() -> States.early(1), "days(39) at DAY 9961", x -> x.days(39), -1);
    }

    private static void tapes() {
        CHECK.about("NONE, and nothing comes, if there would be more than 400");
        refused(FULL, "feed to 400 bytes", x -> x.feed(1, 2, 3, 4, 5), -1);
        refused(() -> cut(381), "feed to 381 bytes", x -> x.feed(1, 2, 3, 4, 5), -1);
        CHECK.about("true; false, changing nothing, if it has not so many, or n is below 0");
        for (int n : new int[] {-1, 23, LOWEST, HIGHEST}) {
            refused(RICH, "end(" + n + ")", x -> bit(x.end(n)), false);
        }
        refused(RICH, "end(22), which is all it has", x -> bit(x.end(22)), true);
        refused(FRESH, "end(0) of nothing", x -> bit(x.end(0)), true);
        refused(FRESH, "end(1) of nothing", x -> bit(x.end(1)), false);
        refused(FULL, "end(401)", x -> bit(x.end(401)), false);
        refused(FULL, "end(400)", x -> bit(x.end(400)), true);
    }

    private static KindPostman cut(int bytes) {
        KindPostman x = States.full();
        x.end(bytes);
        return x;
    }

    private static void faults() {
        CHECK.about("Of the latest text() what 0 the FAULT (0 without one), 1 its place (NONE). NONE for another what");
        refused(RICH, "fault(0)", x -> x.fault(0), 1);
        refused(RICH, "fault(1)", x -> x.fault(1), 17);
        refused(FRESH, "fault(0) before any", x -> x.fault(0), 0);
        refused(FRESH, "fault(1) before any", x -> x.fault(1), -1);
        for (int what : new int[] {-1, 2, LOWEST, HIGHEST}) {
            refused(RICH, "fault(" + what + ")", x -> x.fault(what), -1);
        }
    }

    private static void ofs() {
        CHECK.about("NONE - 99 if there is none such, or another what");
        int[][] wrong = {{-1, 0}, {3, 0}, {LOWEST, 0}, {HIGHEST, 0}, {0, -1}, {0, 5}, {0, 6}, {0, 7}, {0, 8}, {0, 9},
            {0, 13}, {0, 21}, {0, 22}, {0, LOWEST}, {0, HIGHEST}, {3, 10}, {-1, 10}};
        for (int[] w : wrong) {
            refused(RICH, "of(" + w[0] + ", " + w[1] + ")", x -> x.of(w[0], w[1]), -100);
        }
        refused(FRESH, "of(0, 0) without doors", x -> x.of(0, 0), -100);
        refused(FULL, "of(12, 0)", x -> x.of(12, 0), -100);
        refused(FULL, "of(0, 22)", x -> x.of(0, 22), -100);
        refused(FULL, "of(0, 21), where there is no street", x -> x.of(0, 21), -1);
        CHECK.about("10 + d the street to DOOR d (NONE: none, himself)");
        refused(RICH, "of(0, 10)", x -> x.of(0, 10), -1);
        refused(RICH, "of(0, 11)", x -> x.of(0, 11), 5);
        refused(RICH, "of(0, 12)", x -> x.of(0, 12), -1);
        refused(RICH, "of(2, 11)", x -> x.of(2, 11), 8);
    }

    private static void lettersAndGivens() {
        CHECK.about("Of LETTER i of THE BAG; NONE if there is none such, or another what");
        int[][] wrong = {{-1, 0}, {5, 0}, {7, 0}, {LOWEST, 0}, {HIGHEST, 0}, {0, -1}, {0, 8}, {0, LOWEST},
            {0, HIGHEST}};
        for (int[] w : wrong) {
            refused(RICH, "letter(" + w[0] + ", " + w[1] + ")", x -> x.letter(w[0], w[1]), -1);
        }
        refused(FRESH, "letter(0, 0) of an empty bag", x -> x.letter(0, 0), -1);
        refused(FRESH, "letter(0, 5) of an empty bag", x -> x.letter(0, 5), -1);
        refused(FULL, "letter(23, 0)", x -> x.letter(23, 0), 23);
        refused(FULL, "letter(24, 0)", x -> x.letter(24, 0), -1);
        for (int what = 5; what < 8; what++) {
            int w = what;
            refused(RICH, "letter(4, " + w + ")", x -> x.letter(4, w), new int[] {1000, 44, 1}[w - 5]);
        }
        CHECK.about("How much he was given of a KIND; NONE if there is none such");
        for (int kind : new int[] {-1, 7, LOWEST, HIGHEST}) {
            refused(RICH, "given(" + kind + ")", x -> x.given(kind), -1);
        }
        refused(RICH, "given(0)", x -> x.given(0), 60);
        refused(RICH, "given(6)", x -> x.given(6), 0);
    }

    private static void books() {
        CHECK.about("Of line i of THE BOOK; NONE - 1 if there is none such, or another what");
        int[][] wrong = {{-1, 0}, {15, 0}, {LOWEST, 0}, {HIGHEST, 0}, {0, -1}, {0, 4}, {0, LOWEST}, {0, HIGHEST}};
        for (int[] w : wrong) {
            refused(RICH, "book(" + w[0] + ", " + w[1] + ")", x -> x.book(w[0], w[1]), -2);
        }
        refused(FRESH, "book(0, 0) of an empty book", x -> x.book(0, 0), -2);
        refused(FULL, "book(149, 1)", x -> x.book(149, 1), 2);
        refused(FULL, "book(150, 1)", x -> x.book(150, 1), -2);
    }

    private static void goes() {
        CHECK.about("GOES what 0 HEALTH, 1 HUNGER, 2 how many, 3 LOST. NONE if one can't be, or another what");
        int[][] wrong = {{0, 0}, {-1, 0}, {61, 0}, {LOWEST, 0}, {HIGHEST, 0}, {1, -1}, {1, 4}, {1, LOWEST},
            {1, HIGHEST}};
        for (int[] w : wrong) {
            refused(RICH, "goes(" + w[0] + ", " + w[1] + ")", x -> x.goes(w[0], w[1]), -1);
        }
        CHECK.about("IN THOUGHT (nothing of it stays; no DRAWS ..)");
        int[] then = {69, 45, 4, 1};
        int[] far = {0, 99, 0, 5};
        for (int what = 0; what < 4; what++) {
            int w = what;
            refused(RICH, "goes(1, " + w + ")", x -> x.goes(1, w), then[w]);
            refused(RICH, "goes(60, " + w + ")", x -> x.goes(60, w), far[w]);
        }
        refused(FULL, "goes(60, 2)", x -> x.goes(60, 2), 0);
        refused(FULL, "goes(60, 3)", x -> x.goes(60, 3), 24);
        refused(FRESH, "goes(60, 1)", x -> x.goes(60, 1), 99);
    }

    private static void shortest() {
        CHECK.about("NONE if it can't be, there is none such, or another what (SHORTEST)");
        int[][] wrong = {{-1, 0}, {3, 0}, {-1, 1}, {3, 1}, {0, -1}, {0, 2}, {LOWEST, 0}, {HIGHEST, 1}, {0, LOWEST},
            {0, HIGHEST}};
        for (int[] w : wrong) {
            refused(RICH, "shortest(" + w[0] + ", " + w[1] + ")", x -> x.shortest(w[0], w[1]), -1);
        }
        refused(RICH, "shortest(0, 0)", x -> x.shortest(0, 0), 13);
        refused(RICH, "shortest(0, 1)", x -> x.shortest(0, 1), 2);
        refused(FRESH, "shortest(0, 0) without doors", x -> x.shortest(0, 0), -1);
        refused(FULL, "shortest(12, 0)", x -> x.shortest(12, 0), -1);
        refused(FULL, "shortest(0, 0) without streets", x -> x.shortest(0, 0), -1);
    }

    private static void bears() {
        CHECK.about("A blow or a rest for BEARS: how many; NONE if one can't be, or there are eight");
        for (int v : new int[] {-51, 51, LOWEST, HIGHEST}) {
            refused(RICH, "blow(" + v + ")", x -> x.blow(v), -1);
        }
        refused(FULL, "a ninth blow", x -> x.blow(-50), -1);
        refused(FULL, "a ninth rest", x -> x.blow(50), -1);
        refused(FULL, "a ninth that can't be", x -> x.blow(51), -1);
        refused(FRESH, "blow(0) where none are", x -> x.blow(0), 0);
        CHECK.about("NONE if it can't be, health can't be, or another what (BEARS)");
        int[][] wrong = {{0, 0}, {0, 1}, {100, 0}, {100, 1}, {-1, 1}, {50, -1}, {50, 2}, {LOWEST, 1}, {HIGHEST, 1},
            {50, LOWEST}, {50, HIGHEST}};
        for (int[] w : wrong) {
            refused(RICH, "bears(" + w[0] + ", " + w[1] + ")", x -> x.bears(w[0], w[1]), -1);
        }
        refused(RICH, "bears(99, 1)", x -> x.bears(99, 1), 99);
        refused(RICH, "bears(1, 0)", x -> x.bears(1, 0), 1);
        refused(FRESH, "bears(50, 0) without any", x -> x.bears(50, 0), -1);
    }

    private static void carries() {
        CHECK.about("NONE if w can't be, or another what (CARRIES)");
        int[][] wrong = {{0, 0}, {-1, 0}, {401, 0}, {0, 1}, {401, 1}, {50, -1}, {50, 2}, {LOWEST, 0}, {HIGHEST, 0},
            {50, LOWEST}, {50, HIGHEST}};
        for (int[] w : wrong) {
            refused(RICH, "carries(" + w[0] + ", " + w[1] + ")", x -> x.carries(w[0], w[1]), -1);
        }
        refused(RICH, "carries(400, 0)", x -> x.carries(400, 0), 5);
        refused(RICH, "carries(1, 1)", x -> x.carries(1, 1), 1);
        refused(FULL, "carries(401, 0)", x -> x.carries(401, 0), -1);
    }

    private static void owes() {
        CHECK.about("how many; NONE if one can't be (alike; DOORS 0 .. 11), or there are sixteen");
        int[][] wrong = {{-2, 0, 1}, {12, 0, 1}, {0, -1, 1}, {0, 12, 1}, {0, 0, 1}, {11, 11, 1}, {0, 1, 0},
            {0, 1, 100}, {0, 1, -1}, {LOWEST, 0, 1}, {HIGHEST, 0, 1}, {0, LOWEST, 1}, {0, HIGHEST, 1}, {0, 1, LOWEST},
            {0, 1, HIGHEST}};
        for (int[] w : wrong) {
            refused(RICH, "owes(" + w[0] + ", " + w[1] + ", " + w[2] + ")", x -> x.owes(w[0], w[1], w[2]), -1);
        }
        refused(FULL, "a seventeenth", x -> x.owes(0, 1, 1), -1);
        refused(FULL, "a seventeenth that can't be", x -> x.owes(0, 0, 1), -1);
        refused(FRESH, "owes(NONE, 0, 0) where nothing is", x -> x.owes(-1, 0, 0), 0);
        CHECK.about("NET of DOOR 0 .. 11; FEWEST (door NONE). NONE - 9999 if there is none such");
        for (int door : new int[] {-2, 12, LOWEST, HIGHEST}) {
            refused(RICH, "net(" + door + ")", x -> x.net(door), -10000);
        }
        refused(RICH, "net(0)", x -> x.net(0), 0);
        refused(RICH, "net(11)", x -> x.net(11), 0);
        refused(RICH, "net(-1)", x -> x.net(-1), 2);
    }

    private static void chains() {
        CHECK.about("NONE if one can't be, or another what (CHAIN)");
        int[][] wrong = {{0, 5, 1, 0}, {10, 5, 1, 0}, {-1, 5, 1, 0}, {0, 5, 1, 1}, {10, 5, 1, 1}, {1, 0, 1, 0},
            {1, 10000, 1, 0}, {1, 0, 1, 1}, {1, 10000, 1, 1}, {1, 5, -1, 0}, {1, 5, 100, 0}, {1, 5, 1, -1},
            {1, 5, 1, 2}, {LOWEST, 5, 1, 0}, {HIGHEST, 5, 1, 0}, {1, LOWEST, 1, 0}, {1, HIGHEST, 1, 0},
            {1, 5, LOWEST, 0}, {1, 5, HIGHEST, 0}, {1, 5, 1, LOWEST}, {1, 5, 1, HIGHEST}};
        for (int[] w : wrong) {
            refused(RICH, "chain(" + w[0] + ", " + w[1] + ", " + w[2] + ", " + w[3] + ")",
                x -> x.chain(w[0], w[1], w[2], w[3]), -1);
        }
        refused(RICH, "chain(9, 9999, 99, 0)", x -> x.chain(9, 9999, 99, 0), 9999);
        refused(RICH, "chain(9, 9999, LOWEST, 1)", x -> x.chain(9, 9999, LOWEST, 1), 5);
    }

    private static void words() {
        CHECK.about("How often there is a letter 0 .. 25: true; false if one can't be");
        int[][] wrong = {{-1, 1}, {26, 1}, {6, -1}, {6, 10}, {LOWEST, 1}, {HIGHEST, 1}, {6, LOWEST}, {6, HIGHEST}};
        for (int[] w : wrong) {
            refused(RICH, "has(" + w[0] + ", " + w[1] + ")", x -> bit(x.has(w[0], w[1])), false);
        }
        CHECK.about("A letter more of the word: how many; NONE if one can't be, or there are eight");
        for (int letter : new int[] {-2, 26, LOWEST, HIGHEST}) {
            refused(RICH, "spell(" + letter + ")", x -> x.spell(letter), -1);
        }
        refused(FULL, "a ninth letter", x -> x.spell(0), -1);
        refused(FULL, "a ninth letter that can't be", x -> x.spell(26), -1);
        refused(FRESH, "spell(NONE) of an empty word", x -> x.spell(-1), 0);
        CHECK.about("LAYS what 0 how many times, 1 orders. NONE for another what");
        for (int what : new int[] {-1, 2, LOWEST, HIGHEST}) {
            refused(RICH, "lays(" + what + ")", x -> x.lays(what), -1);
        }
        refused(RICH, "lays(0)", x -> x.lays(0), 5);
        refused(RICH, "lays(1)", x -> x.lays(1), 2);
    }

    private static void answers() {
        CHECK.about("ANSWERS is told: how many; NONE if one can't be, or there are twelve");
        int[][] wrong = {{-2, 0}, {7, 0}, {0, -1}, {0, 7}, {LOWEST, 0}, {HIGHEST, 0}, {0, LOWEST}, {0, HIGHEST}};
        for (int[] w : wrong) {
            refused(RICH, "answer(" + w[0] + ", " + w[1] + ")", x -> x.answer(w[0], w[1]), -1);
        }
        refused(FULL, "a thirteenth", x -> x.answer(0, 0), -1);
        refused(FULL, "a thirteenth that can't be", x -> x.answer(7, 0), -1);
        refused(FRESH, "answer(NONE, 0) where nothing is", x -> x.answer(-1, 0), 0);
        CHECK.about("LIKELY (what 0), FOLLOWS (1) of a KIND. NONE if there is none such, or another what");
        int[][] none = {{-1, 0}, {7, 0}, {-1, 1}, {7, 1}, {2, -1}, {2, 2}, {LOWEST, 0}, {HIGHEST, 1}, {2, LOWEST},
            {2, HIGHEST}};
        for (int[] n : none) {
            refused(RICH, "likely(" + n[0] + ", " + n[1] + ")", x -> x.likely(n[0], n[1]), -1);
        }
        refused(RICH, "likely(2, 0)", x -> x.likely(2, 0), 3);
        refused(RICH, "likely(2, 1)", x -> x.likely(2, 1), -1);
        refused(RICH, "likely(6, 1)", x -> x.likely(6, 1), 0);
    }

    private static void boxes() {
        CHECK.about("BOX what 0 the DOOR, 1 how far. NONE if it can't be, there are no DOORS, or another what");
        for (int what : new int[] {-1, 2, LOWEST, HIGHEST}) {
            refused(RICH, "box(" + what + ")", x -> x.box(what), -1);
        }
        refused(RICH, "box(0)", x -> x.box(0), 1);
        refused(RICH, "box(1)", x -> x.box(1), 8);
        refused(FRESH, "box(0) without doors", x -> x.box(0), -1);
        refused(FRESH, "box(1) without doors", x -> x.box(1), -1);
        refused(FULL, "box(0) without streets", x -> x.box(0), -1);
        refused(FULL, "box(1) without streets", x -> x.box(1), -1);
    }

    private static void faces() {
        CHECK.about("FACES is told: how many; NONE if one can't be (bits 0 .. 5), or there are eight");
        int[][] wrong = {{-2, 0}, {64, 0}, {65, 0}, {1, -3}, {1, 3}, {LOWEST, 0}, {HIGHEST, 0}, {1, LOWEST},
            {1, HIGHEST}};
        for (int[] w : wrong) {
            refused(RICH, "face(" + w[0] + ", " + w[1] + ")", x -> x.face(w[0], w[1]), -1);
        }
        refused(FULL, "a ninth", x -> x.face(1, 0), -1);
        refused(FULL, "a ninth that can't be", x -> x.face(64, 0), -1);
        refused(FRESH, "face(NONE, 0) where nothing is", x -> x.face(-1, 0), 0);
        CHECK.about("FACES what 0 in how many ways, 1 the sure ones. NONE for another what");
        for (int what : new int[] {-1, 2, LOWEST, HIGHEST}) {
            refused(RICH, "faces(" + what + ")", x -> x.faces(what), -1);
        }
        refused(RICH, "faces(0)", x -> x.faces(0), (3 * 2 + 2 * 3) * 7 * 7 * 7);
        refused(RICH, "faces(1)", x -> x.faces(1), 4);
    }

    private static void joyAndGame() {
        CHECK.about("JOY what 0 that, 1 where. NONE - 99 without DOORS, or for another what");
        for (int what : new int[] {-1, 2, LOWEST, HIGHEST}) {
            refused(RICH, "joy(" + what + ")", x -> x.joy(what), -100);
        }
        refused(FRESH, "joy(0) without doors", x -> x.joy(0), -100);
        refused(FRESH, "joy(1) without doors", x -> x.joy(1), -100);
        refused(FULL, "joy(0)", x -> x.joy(0), 6);
        refused(FULL, "joy(1)", x -> x.joy(1), 4);
        CHECK.about("GAME what 0 the DOOR, 1 how many. NONE if who begins loses, or for another what");
        for (int what : new int[] {-1, 2, LOWEST, HIGHEST}) {
            refused(RICH, "game(" + what + ")", x -> x.game(what), -1);
        }
        refused(FRESH, "game(0) of an empty bag", x -> x.game(0), -1);
        refused(FRESH, "game(1) of an empty bag", x -> x.game(1), -1);
        refused(RICH, "game(0)", x -> x.game(0), -1);
        refused(FULL, "game(0)", x -> x.game(0), 0);
        refused(FULL, "game(1)", x -> x.game(1), 2);
    }

    private static void undoAndImage() {
        CHECK.about("UNDO: true; false if there is nothing");
        refused(FRESH, "undo of nothing", x -> bit(x.undo()), false);
        refused(() -> undone(States.full(), 6), "undo behind six", x -> bit(x.undo()), false);
        refused(() -> undone(States.rich(), 4), "undo behind four", x -> bit(x.undo()), false);
        CHECK.about("THE IMAGE is taken (true), or gone back to (false): true; false if there is none");
        refused(FRESH, "image(false) of none", x -> bit(x.image(false)), false);
        refused(WEAK, "image(false) of none, with something to undo", x -> bit(x.image(false)), false);
        refused(LATE, "image(false) of none, late", x -> bit(x.image(false)), false);
    }

    private static KindPostman undone(KindPostman x, int times) {
        for (int i = 0; i < times; i++) {
            x.undo();
        }
        return x;
    }

    private static void looks() {
        CHECK.about("NONE for another what (look)");
        for (int what : new int[] {-1, 16, LOWEST, HIGHEST}) {
            refused(RICH, "look(" + what + ")", x -> x.look(what), -1);
        }
        refused(FRESH, "look(15)", x -> x.look(15), 0);
        refused(FULL, "look(15)", x -> x.look(15), 6);
    }
}
