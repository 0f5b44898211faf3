import java.util.function.Supplier;
import java.util.function.ToLongFunction;

/**
 * Promises 2 to 11, 19, 22, 25, 26, 28, 31, 35, 36: a call that is taken changes what the document names and
 * nothing else. What changed is told by the calls that are answered in another way than those of a twin.
 */
public final class TakenTest {
    private static final Check CHECK = new Check();

    public static void main(String[] args) {
        told();
        posted();
        brought();
        notOpened();
        rained();
        aDay();
        tape();
        noSuchText();
        textsWithFaults();
        textsWithout();
        thoughts();
        nothingIsThen();
        undone();
        image();
        CHECK.end();
    }

    /** The calls that are answered in another way behind this one, of all but TAPE, undo and THE IMAGE. */
    private static void changes(Supplier<KindPostman> state, String call, ToLongFunction<KindPostman> made, long due,
            String changed) {
        KindPostman x = state.get();
        CHECK.due(call, made.applyAsLong(x), due);
        CHECK.due("what changed by " + call, Seen.differences(Seen.still(x), Seen.still(state.get())),
            Seen.sorted(changed));
    }

    /** The same of all that can be seen, against a twin of another state. */
    private static void differs(KindPostman x, KindPostman twin, String call, String changed) {
        CHECK.due("what changed by " + call, Seen.differences(Seen.all(x), Seen.all(twin)), Seen.sorted(changed));
    }

    private static long bit(boolean b) {
        return b ? 1 : 0;
    }

    private static KindPostman rich() {
        return States.rich();
    }

    /** The rich one with an empty TAPE. */
    private static KindPostman clean() {
        KindPostman x = States.rich();
        x.end(0);
        return x;
    }

    private static KindPostman shut() {
        KindPostman x = clean();
        Words.tell(x, 0, "opens 0; tires 7;");
        return x;
    }

    private static void told() {
        CHECK.about("STATE is told: what it was");
        int was = rich().look(10);
        changes(TakenTest::rich, "state(5)", x -> x.state(5), was, "look(10) look(15)");
        changes(TakenTest::rich, "state as it is", x -> x.state(was), was, "look(15)");
        CHECK.about("A DOOR: the number");
        changes(TakenTest::rich, "door(-9, 0, 0)", x -> x.door(-9, 0, 0), 3, "look(0) look(15) box(0) box(1)"
            + " of(3,0) of(3,1) of(3,2) of(3,3) of(3,4) of(3,10) of(3,11) of(3,12)");
        CHECK.about("What 0 FACE, 1 LOVE, 2 PURSE of DOOR who, 3 HEALTH, 4 HUNGER (who not asked): true");
        changes(TakenTest::rich, "set(0, 2, 9)", x -> bit(x.set(0, 2, 9)), 1, "look(15) of(2,0) joy(0) joy(1)");
        changes(TakenTest::rich, "set(0, 2, -9)", x -> bit(x.set(0, 2, -9)), 1, "look(15) of(2,0)");
        changes(TakenTest::rich, "set(1, 2, 9)", x -> bit(x.set(1, 2, 9)), 1, "look(15) of(2,1)");
        changes(TakenTest::rich, "set(2, 2, 0)", x -> bit(x.set(2, 2, 0)), 1, "look(15) of(2,2)");
        changes(TakenTest::rich, "set(3, -7, 99)", x -> bit(x.set(3, -7, 99)), 1, "look(2) look(15) goes(2,0)");
        changes(TakenTest::rich, "set(4, 12, 0)", x -> bit(x.set(4, 12, 0)), 1, "look(3) look(15) goes(2,1)");
        changes(TakenTest::rich, "set as it is", x -> bit(x.set(2, 2, 999)), 1, "look(15)");
    }

    private static void posted() {
        CHECK.about("To POST: the LETTER");
        changes(TakenTest::rich, "post(0, 5, 1)", x -> x.post(0, 5, 1), 10, "look(1) look(9) look(15) of(0,4)"
            + " goes(2,2) carries(50,0) game(0) game(1)"
            + " letter(5,0) letter(5,1) letter(5,2) letter(5,3) letter(5,4) letter(5,5) letter(5,6) letter(5,7)"
            + " book(15,0) book(15,1) book(15,2) book(15,3)");
    }

    private static void brought() {
        CHECK.about("To BRING a LETTER: what was given");
        changes(TakenTest::rich, "bring(9)", x -> x.bring(9), 44, "look(1) look(6) look(9) look(10) look(15) given(5)"
            + " of(1,3) of(1,4)"
            + " letter(4,0) letter(4,1) letter(4,2) letter(4,3) letter(4,4) letter(4,5) letter(4,6) letter(4,7)"
            + " game(0) game(1) book(15,0) book(15,1) book(15,2) book(15,3)");
    }

    private static void notOpened() {
        CHECK.about("Not opened: it stays in THE BAG. Either way HOUR is tires more");
        changes(TakenTest::shut, "bring(5)", x -> x.bring(5), -1,
            "look(6) look(9) look(10) look(15) book(15,0) book(15,1) book(15,2) book(15,3)");
    }

    private static void rained() {
        CHECK.about("To let it RAIN: true");
        changes(TakenTest::rich, "rain(9)", x -> bit(x.rain(9)), 1, "look(7) look(15)");
        changes(TakenTest::rich, "rain(0)", x -> bit(x.rain(0)), 1, "look(7) look(15)");
        changes(TakenTest::rich, "rain as it is", x -> bit(x.rain(4)), 1, "look(15)");
    }

    private static void aDay() {
        CHECK.about("A DAY");
        changes(TakenTest::rich, "days(1)", x -> x.days(1), 1, "look(1) look(2) look(3) look(8) look(9) look(10)"
            + " look(15) given(5) of(1,3) of(1,4) letter(0,4) letter(1,4) letter(2,4) letter(3,4)"
            + " letter(4,0) letter(4,1) letter(4,2) letter(4,3) letter(4,4) letter(4,5) letter(4,6) letter(4,7)"
            + " goes(2,0) goes(2,1) game(0) game(1) book(15,0) book(15,1) book(15,2) book(15,3)");
        changes(States::fresh, "a day on which nothing is", x -> x.days(1), 0, "look(3) look(8) look(15) goes(2,1)");
    }

    private static void tape() {
        CHECK.about("Twenty bytes come behind the TAPE: how many it has");
        KindPostman x = rich();
        CHECK.due("feed", x.feed(0x20202020, 0x20202020, 0x20202020, 0x20202020, 0x20202020), 42);
        differs(x, rich(), "feed", "feed");
        CHECK.about("The TAPE has its first n bytes alone: true");
        KindPostman y = rich();
        CHECK.due("end(8)", y.end(8), true);
        KindPostman twin = clean();
        Words.feed(twin, "tires 2;");
        differs(y, twin, "end(8)", "");
        KindPostman z = clean();
        CHECK.due("end(0) again", z.end(0), true);
        differs(z, clean(), "end(0)", "");
    }

    private static void noSuchText() {
        CHECK.about("NONE: no such one (fault() tells 0)");
        for (int k : new int[] {-1, 4, Integer.MIN_VALUE, Integer.MAX_VALUE}) {
            KindPostman x = rich();
            CHECK.due("text(" + k + ")", x.text(k), -1);
            CHECK.due("fault(0) behind text(" + k + ")", x.fault(0), 0);
            CHECK.due("fault(1) behind text(" + k + ")", x.fault(1), -1);
            differs(x, clean(), "text(" + k + ")", "fault(0) fault(1)");
        }
    }

    private static void textsWithFaults() {
        CHECK.about("NONE: a FAULT (it stays as it was)");
        int[] places = {18, 0, 0, 0};
        String[] others = {"gives 1; gives 1 / 0;", "on 0 to 0 kiss 1; on 0 to 3 kiss 1;", "walk 0; walk 3;",
            "street 0 1 1; street 0 0 1;"};
        int[] otherPlaces = {19, 26, 13, 23};
        for (int k = 0; k < 4; k++) {
            KindPostman x = rich();
            CHECK.due("text(" + k + ")", x.text(k), -1);
            CHECK.due("the fault of text(" + k + ")", x.fault(0), 1);
            CHECK.due("its place in text(" + k + ")", x.fault(1), places[k]);
            differs(x, clean(), "text(" + k + ") with a fault", "fault(1)");
            KindPostman y = clean();
            CHECK.due(others[k], Words.tell(y, k, others[k]), -1);
            CHECK.due("the fault of " + others[k], y.fault(0), 2);
            CHECK.due("its place in " + others[k], y.fault(1), otherPlaces[k]);
            differs(y, clean(), others[k], "fault(0) fault(1)");
        }
    }

    private static void textsWithout() {
        CHECK.about("The TAPE, empty then, is TEXT k: how many lines");
        KindPostman x = clean();
        CHECK.due("a LAW", Words.tell(x, 0, "opens 1000; gives 2 when kind = 1; tires 3;"), 3);
        differs(x, clean(), "a LAW", "look(11) fault(0) fault(1) letter(0,7) letter(1,7) letter(2,7) letter(3,7)"
            + " letter(4,7)");
        KindPostman y = clean();
        CHECK.due("STREETS", Words.tell(y, 3, "street 0 1 5; street 1 2 7; street 2 1 9;"), 3);
        differs(y, clean(), "STREETS", "look(14) fault(0) fault(1) of(1,12) of(2,11) shortest(0,0) box(1)");
        CHECK.about("whatever else is told .. forgets them");
        KindPostman post = clean();
        CHECK.due("a POST", Words.tell(post, 1, "on 999 to 0 kiss 1;"), 1);
        CHECK.due("nothing can be undone behind a POST", post.look(15), 0);
        CHECK.due("what changed by a POST", Seen.differences(Seen.still(post), Seen.still(clean())),
            "fault(0) fault(1) look(12) look(15)");
        CHECK.due("the TAPE is empty behind a POST", post.end(1), false);
        KindPostman round = clean();
        CHECK.due("a ROUND", Words.tell(round, 2, "walk 1; walk 1;"), 2);
        CHECK.due("nothing can be undone behind a ROUND", round.look(15), 0);
        CHECK.due("what changed by a ROUND", Seen.differences(Seen.still(round), Seen.still(clean())),
            "fault(0) fault(1) look(13) look(15)");
        CHECK.due("the TAPE is empty behind a ROUND", round.end(1), false);
    }

    private static void thoughts() {
        CHECK.about("what is told for thought (BEARS, OWES, WORD, ANSWERS, FACES) (.. does not) forget");
        KindPostman x = rich();
        CHECK.due("blow(-50)", x.blow(-50), 3);
        differs(x, rich(), "blow(-50)", "bears(60,1)");
        x = rich();
        CHECK.due("owes(11, 0, 99)", x.owes(11, 0, 99), 3);
        differs(x, rich(), "owes(11, 0, 99)", "net(-1) net(0) net(11)");
        x = rich();
        CHECK.due("has(7, 0)", x.has(7, 0), true);
        differs(x, rich(), "has(7, 0)", "lays(0)");
        x = rich();
        CHECK.due("has(25, 9)", x.has(25, 9), true);
        differs(x, rich(), "has(25, 9)", "");
        x = rich();
        CHECK.due("spell(25)", x.spell(25), 3);
        differs(x, rich(), "spell(25)", "lays(0) lays(1)");
        x = rich();
        CHECK.due("answer(6, 3)", x.answer(6, 3), 3);
        differs(x, rich(), "answer(6, 3)", "likely(6,0) likely(2,1) likely(3,1) likely(6,1)");
        x = rich();
        CHECK.due("face(1, 0)", x.face(1, 0), 3);
        differs(x, rich(), "face(1, 0)", "faces(0) faces(1)");
    }

    private static void nothingIsThen() {
        CHECK.about("(0: none are then), (a NONE: nothing is then), (NONE: it is empty then)");
        KindPostman x = rich();
        CHECK.due("blow(0)", x.blow(0), 0);
        differs(x, rich(), "blow(0)", "bears(60,0) bears(60,1)");
        x = rich();
        CHECK.due("owes(-1, 0, 0)", x.owes(-1, 0, 0), 0);
        differs(x, rich(), "owes(-1, 0, 0)", "net(-1) net(2) net(3) net(5)");
        x = rich();
        CHECK.due("spell(-1)", x.spell(-1), 0);
        differs(x, rich(), "spell(-1)", "lays(0) lays(1)");
        x = rich();
        x.spell(-1);
        x.spell(6);
        CHECK.due("the letters that there are stay", x.lays(0), 5);
        x = rich();
        CHECK.due("answer(-1, 0)", x.answer(-1, 0), 0);
        differs(x, rich(), "answer(-1, 0)", "likely(2,0) likely(3,0) likely(2,1) likely(3,1)");
        x = rich();
        CHECK.due("face(-1, 0)", x.face(-1, 0), 0);
        differs(x, rich(), "face(-1, 0)", "faces(0) faces(1)");
        KindPostman full = States.full();
        CHECK.due("of eight blows none are", full.blow(0), 0);
        CHECK.due("of sixteen debts nothing is", full.owes(-1, 0, 0), 0);
        CHECK.due("of eight letters none are", full.spell(-1), 0);
        CHECK.due("of twelve answers nothing is", full.answer(-1, 0), 0);
        CHECK.due("of eight faces nothing is", full.face(-1, 0), 0);
        CHECK.due("a first blow", full.blow(1), 1);
        CHECK.due("a first debt", full.owes(0, 1, 1), 1);
        CHECK.due("a first letter", full.spell(0), 1);
        CHECK.due("a first answer", full.answer(0, 0), 1);
        CHECK.due("a first face", full.face(0, 0), 1);
    }

    private static void undone(Supplier<KindPostman> state, String deed, ToLongFunction<KindPostman> done, int times) {
        KindPostman x = state.get();
        done.applyAsLong(x);
        for (int i = 0; i < times; i++) {
            CHECK.due("undo of " + deed, x.undo(), true);
        }
        differs(x, state.get(), deed + " and its undoing", "");
    }

    private static void undone() {
        CHECK.about("UNDO: the latest DAY, POSTING, BRINGING, RAIN not undone yet goes back (STATE, THE BOOK, too)");
        undone(TakenTest::rich, "a day", x -> x.days(1), 1);
        undone(TakenTest::rich, "two days", x -> x.days(2), 2);
        undone(TakenTest::rich, "a posting", x -> x.post(2, 0, 99), 1);
        undone(TakenTest::rich, "bringing a kiss", x -> x.bring(4), 1);
        undone(TakenTest::rich, "bringing a joke", x -> x.bring(5), 1);
        undone(TakenTest::rich, "bringing anger", x -> x.bring(6), 1);
        undone(TakenTest::rich, "bringing a text", x -> x.bring(9), 1);
        undone(TakenTest::shut, "bringing what is not opened", x -> x.bring(6), 1);
        undone(TakenTest::rich, "rain", x -> bit(x.rain(0)), 1);
    }

    private static void image() {
        CHECK.about("(the taking of THE IMAGE does not) forget");
        KindPostman x = rich();
        CHECK.due("image(true)", x.image(true), true);
        CHECK.due("what changed by image(true)", Seen.differences(Seen.still(x), Seen.still(rich())), "");
        CHECK.due("what was done can be undone", x.undo(), true);
        CHECK.about("THE IMAGE: all that is and was told but the TAPE, fault() and what can be undone, as it was then");
        for (int times = 1; times <= 2; times++) {
            KindPostman y = rich();
            y.image(true);
            for (int i = 0; i < times; i++) {
                change(y);
                CHECK.due("image(false)", y.image(false), true);
            }
            CHECK.due("what is not as it was, " + times, Seen.differences(Seen.still(y), Seen.still(rich())),
                "fault(0) fault(1) look(15)");
            CHECK.due("nothing can be undone", y.undo(), false);
            CHECK.due("the fault is the latest", y.fault(0), 2);
            CHECK.due("its place, too", y.fault(1), 5);
            CHECK.due("the TAPE is the latest", y.feed(0, 0, 0, 0, 0), 27);
        }
    }

    /** Changes all that can be changed, but for THE IMAGE. */
    private static void change(KindPostman x) {
        x.end(0);
        x.rain(9);
        x.bring(4);
        x.days(3);
        x.post(0, 0, 9);
        x.state(1);
        x.door(1, 1, 1);
        x.set(1, 0, 0);
        x.set(2, 0, 0);
        x.set(3, 0, 5);
        x.set(4, 0, 5);
        Words.tell(x, 0, "tires 2;");
        Words.tell(x, 1, "");
        Words.tell(x, 2, "walk 2; walk 3;");
        Words.tell(x, 3, "street 0 1 1;");
        x.blow(7);
        x.owes(0, 1, 7);
        x.has(6, 1);
        x.spell(3);
        x.answer(2, 0);
        x.face(63, 0);
        Words.tell(x, 2, "walk 4;");
        Words.feed(x, "walk 1;");
    }
}
