/** The edges of what is thought (Terms 4) and of promises 18 to 34. */
public final class ThoughtEdgeTest {
    private static final Check CHECK = new Check();

    public static void main(String[] args) {
        shortestOfNothing();
        shortestThatCannotBe();
        shortestOfEight();
        shortestOfSeveralEnds();
        blowsAndRests();
        bearsHealthTold();
        bearsNeverBelowOne();
        bearsNinetyNineAtMost();
        bearsTheLeast();
        carriesByWeight();
        carriesWhatWeighs();
        owesLimits();
        netsAndFewest();
        chainLimits();
        chainByDays();
        hasAndSpell();
        laysTimes();
        laysOrders();
        answersLimits();
        likelyLeast();
        followsRound();
        boxes();
        faceLimits();
        facesOfNone();
        facesOfOne();
        facesSure();
        joys();
        games();
        CHECK.end();
    }

    private static KindPostman withDoors(int doors) {
        KindPostman x = new KindPostman();
        for (int i = 0; i < doors; i++) {
            x.door(0, 0, 0);
        }
        return x;
    }

    /** Doors in a row, each 1 from the next. */
    private static KindPostman row(int doors) {
        KindPostman x = withDoors(doors);
        StringBuilder text = new StringBuilder();
        for (int i = 0; i + 1 < doors; i++) {
            text.append("street ").append(i).append(" ").append(i + 1).append(" 1;");
        }
        Words.tell(x, 3, text.toString());
        return x;
    }

    private static void walk(KindPostman x, int a, int length, int end) {
        CHECK.due("shortest(" + a + ", 0)", x.shortest(a, 0), length);
        CHECK.due("shortest(" + a + ", 1)", x.shortest(a, 1), end);
    }

    private static void shortestOfNothing() {
        CHECK.about("1 where it ends (none has a LETTER: a); (a, too, counts as reached)");
        walk(withDoors(0), 0, -1, -1);
        for (int a = 0; a < 12; a++) {
            KindPostman x = withDoors(12);
            walk(x, a, 0, a);
            x.post(a, 5, 1);
            walk(x, a, 0, a);
        }
        KindPostman x = row(3);
        x.post(0, 5, 1);
        walk(x, 2, 2, 0);
        x.post(2, 5, 1);
        walk(x, 2, 2, 0);
        walk(x, 0, 2, 2);
    }

    private static void shortestThatCannotBe() {
        CHECK.about("how long (NONE: it can't be); NONE if it can't be, there is none such");
        KindPostman x = withDoors(3);
        Words.tell(x, 3, "street 0 1 99;");
        x.post(2, 5, 1);
        walk(x, 0, -1, -1);
        walk(x, 2, 0, 2);
        x.post(1, 5, 1);
        walk(x, 0, -1, -1);
        walk(x, 2, -1, -1);
        walk(x, -1, -1, -1);
        walk(x, 3, -1, -1);
        Words.tell(x, 3, "street 0 1 99; street 1 2 99;");
        walk(x, 0, 198, 2);
    }

    private static void shortestOfEight() {
        CHECK.about("up to eight such DOORS besides a, more: NONE");
        KindPostman x = row(12);
        for (int goals = 1; goals <= 8; goals++) {
            x.post(goals, 5, 1);
            x.post(goals, 5, 1);
            walk(x, 0, goals, goals);
        }
        x.post(0, 5, 1);
        walk(x, 0, 8, 8);
        walk(x, 9, -1, -1);
        x.post(9, 5, 1);
        walk(x, 0, -1, -1);
        walk(x, 4, -1, -1);
        walk(x, 11, -1, -1);
        x.undo();
        walk(x, 0, 8, 8);
        KindPostman far = withDoors(12);
        for (int d = 1; d <= 9; d++) {
            far.post(d, 5, 1);
        }
        walk(far, 0, -1, -1);
    }

    private static void shortestOfSeveralEnds() {
        CHECK.about("the DOOR of these at which it ends (of several the least)");
        KindPostman x = withDoors(4);
        Words.tell(x, 3, "street 0 1 5; street 0 2 5; street 0 3 5;");
        x.post(3, 5, 1);
        x.post(2, 5, 1);
        x.post(1, 5, 1);
        walk(x, 0, 25, 1);
        Words.tell(x, 3, "street 0 1 5; street 0 2 5; street 0 3 6;");
        walk(x, 0, 26, 3);
        Words.tell(x, 3, "street 0 1 5; street 0 2 6; street 0 3 6;");
        walk(x, 0, 28, 2);
        Words.tell(x, 3, "street 0 1 5; street 1 2 6; street 2 3 6; street 3 1 1;");
        walk(x, 0, 12, 2);
    }

    private static KindPostman blown(int... blows) {
        KindPostman x = new KindPostman();
        for (int v : blows) {
            x.blow(v);
        }
        return x;
    }

    private static void blowsAndRests() {
        CHECK.about("up to 8 told blows and rests (-50 .. 50) .. (0: none are then)");
        for (int v = -52; v <= 52; v++) {
            KindPostman x = blown(1);
            int due = v == 0 ? 0 : v >= -50 && v <= 50 ? 2 : -1;
            CHECK.due("blow(" + v + ")", x.blow(v), due);
            int left = due == 0 ? 40 : due == 2 ? 41 + v : 41;
            CHECK.due("left of 40 by " + v, x.bears(40, 1), left > 0 ? left : -1);
        }
        KindPostman x = new KindPostman();
        for (int i = 1; i <= 8; i++) {
            CHECK.due("blow " + i, x.blow(-1), i);
            CHECK.due("left behind " + i, x.bears(50, 1), 50 - i);
        }
        CHECK.due("the ninth", x.blow(-1), -1);
        CHECK.due("left still", x.bears(50, 1), 42);
        CHECK.due("none are then", x.blow(0), 0);
        CHECK.due("left of all", x.bears(50, 1), 50);
        CHECK.due("a first again", x.blow(-1), 1);
    }

    private static void bearsHealthTold() {
        CHECK.about("from HEALTH told (1 .. 99); 0 the first one (NONE without any), 1 how much is left");
        for (int health = -1; health <= 101; health++) {
            boolean can = health >= 1 && health <= 99;
            CHECK.due("left of " + health, blown().bears(health, 1), can ? health : -1);
            CHECK.due("the first without any, of " + health, blown().bears(health, 0), -1);
            CHECK.due("the first of " + health, blown(3).bears(health, 0), can ? 0 : -1);
            CHECK.due("left with 3 more, of " + health, blown(3).bears(health, 1), can ? Math.min(99, health + 3) : -1);
        }
    }

    private static void bearsNeverBelowOne() {
        CHECK.about("never below 1; NONE if it can't be");
        for (int health = 1; health <= 99; health++) {
            KindPostman x = blown(-50);
            CHECK.due("left of " + health + " by -50", x.bears(health, 1), health > 50 ? health - 50 : -1);
            CHECK.due("the first of " + health + " by -50", x.bears(health, 0), health > 50 ? 0 : -1);
        }
        KindPostman x = blown(-10, 5, -10);
        CHECK.due("16 bears it in one order", x.bears(16, 1), 1);
        CHECK.due("15 does not", x.bears(15, 1), -1);
        CHECK.due("15 begins with none", x.bears(15, 0), -1);
        CHECK.due("on the way, too", blown(-30, 50).bears(30, 0), 1);
        CHECK.due("31 may begin with the blow", blown(-30, 50).bears(31, 0), 0);
    }

    private static void bearsNinetyNineAtMost() {
        CHECK.about("HEALTH 99 at most");
        CHECK.due("98 and 1", blown(1).bears(98, 1), 99);
        CHECK.due("98 and 2", blown(2).bears(98, 1), 99);
        CHECK.due("a rest that is lost is better taken behind", blown(50, -50).bears(99, 1), 99);
        CHECK.due("both behind", blown(50, 50, -50, -40).bears(99, 1), 99);
        CHECK.due("a rest between", blown(-50, -50, 50).bears(99, 1), 49);
        CHECK.due("rests can't be kept", blown(50, 50, -50, -50, -50).bears(99, 1), 49);
        CHECK.due("a rest that is lost can't be the first", blown(50, -50, -49).bears(99, 0), 1);
        CHECK.due("one that is not lost can", blown(50, -50, -48).bears(49, 0), 0);
    }

    private static void bearsTheLeast() {
        CHECK.about("orders by which all can be: the least with which one of these begins");
        CHECK.due("any", blown(-5, -5, -5).bears(50, 0), 0);
        CHECK.due("the second alone", blown(-40, 20, -10).bears(40, 0), 1);
        CHECK.due("the second, though the third is greater", blown(-40, 1, 30).bears(20, 0), 1);
        CHECK.due("the last alone", blown(-50, -50, -50, -50, -50, -50, -50, 50).bears(1, 0), -1);
        CHECK.due("the eighth alone", blown(-9, -9, -9, -9, -9, -1, -2, 50).bears(1, 0), 7);
    }

    private static KindPostman bag(int... much) {
        KindPostman x = withDoors(1);
        for (int m : much) {
            x.post(0, 5, m);
        }
        return x;
    }

    private static void carriesByWeight() {
        CHECK.about("CARRIES of w (1 .. 400); NONE if w can't be");
        KindPostman x = bag(1, 99, 99, 99, 99, 3);
        for (int w = -1; w <= 402; w++) {
            boolean can = w >= 1 && w <= 400;
            int most = w < 4 ? 1 : 2 + Math.min(4, Math.max(0, (w - 4) / 99));
            CHECK.due("how many of " + w, x.carries(w, 0), can ? most : -1);
        }
        CHECK.due("400 exactly", x.carries(400, 0), 6);
        CHECK.due("in one way", x.carries(400, 1), 1);
        CHECK.due("399", x.carries(399, 0), 5);
        CHECK.due("any one of them left", x.carries(399, 1), 6);
    }

    private static void carriesWhatWeighs() {
        CHECK.about("of LETTERS in THE BAG each weighing MUCH the greatest number that weigh w together at most");
        CHECK.due("an empty bag: how many", bag().carries(400, 0), 0);
        CHECK.due("an empty bag: ways", bag().carries(1, 1), 1);
        for (int much = 1; much <= 99; much++) {
            KindPostman x = bag(much);
            CHECK.due("just " + much, x.carries(much, 0), 1);
            if (much > 1) {
                CHECK.due("one less than " + much, x.carries(much - 1, 0), 0);
                CHECK.due("its way", x.carries(much - 1, 1), 1);
            }
        }
        KindPostman full = bag();
        for (int i = 0; i < 24; i++) {
            full.post(0, 5, 1);
        }
        CHECK.due("all of a full bag", full.carries(24, 0), 24);
        CHECK.due("in one way", full.carries(24, 1), 1);
        CHECK.due("one less", full.carries(23, 0), 23);
        CHECK.due("in 24 ways", full.carries(23, 1), 24);
        CHECK.due("half", full.carries(12, 1), 2704156);
        CHECK.due("one", full.carries(1, 1), 24);
        Words.tell(full, 0, "opens 1000;");
        full.bring(0);
        CHECK.due("what is gone weighs nothing", full.carries(400, 0), 23);
    }

    private static void owesLimits() {
        CHECK.about("OWES, up to 16 told: DOOR a owes DOOR b N (1 .. 99); (alike; DOORS 0 .. 11)");
        for (int a = -2; a <= 13; a++) {
            for (int b = -2; b <= 13; b++) {
                KindPostman x = new KindPostman();
                boolean can = a >= 0 && a <= 11 && b >= 0 && b <= 11 && a != b;
                CHECK.due("owes(" + a + ", " + b + ", 5)", x.owes(a, b, 5), a == -1 ? 0 : can ? 1 : -1);
                CHECK.due("net(" + a + ")", x.net(a), a == -1 ? 0 : a < 0 || a > 11 ? -10000 : can ? -5 : 0);
                CHECK.due("FEWEST", x.net(-1), can ? 1 : 0);
            }
        }
        for (int n = -1; n <= 101; n++) {
            KindPostman x = new KindPostman();
            boolean can = n >= 1 && n <= 99;
            CHECK.due("owes(0, 1, " + n + ")", x.owes(0, 1, n), can ? 1 : -1);
            CHECK.due("net(0)", x.net(0), can ? -n : 0);
            CHECK.due("net(1)", x.net(1), can ? n : 0);
        }
        KindPostman x = new KindPostman();
        for (int i = 1; i <= 16; i++) {
            CHECK.due("owes " + i, x.owes(0, 1, 99), i);
        }
        CHECK.due("the seventeenth", x.owes(0, 1, 99), -1);
        CHECK.due("net(0) of sixteen", x.net(0), -1584);
        CHECK.due("net(1) of sixteen", x.net(1), 1584);
        CHECK.due("FEWEST of sixteen", x.net(-1), 1);
        CHECK.due("nothing is then, whatever else is told", x.owes(-1, -1, -1), 0);
        CHECK.due("net(0) of nothing", x.net(0), 0);
        CHECK.due("a first again", x.owes(1, 0, 1), 1);
    }

    private static void netsAndFewest() {
        CHECK.about("NET of a DOOR: what it must get less what it must give; FEWEST");
        for (int door = -3; door <= 14; door++) {
            int due = door == -1 ? 0 : door < 0 || door > 11 ? -10000 : 0;
            CHECK.due("net(" + door + ") of nothing", new KindPostman().net(door), due);
        }
        KindPostman x = new KindPostman();
        for (int d = 1; d <= 11; d++) {
            x.owes(0, d, d);
            CHECK.due("one owes " + d, x.net(-1), d);
        }
        x.owes(-1, 0, 0);
        for (int d = 1; d <= 11; d++) {
            x.owes(0, d, 1);
            CHECK.due("one owes 1 to each of " + d, x.net(-1), d);
        }
        x.owes(-1, 0, 0);
        for (int d = 0; d < 11; d++) {
            x.owes(d, d + 1, 7);
        }
        CHECK.due("eleven in a chain are one payment", x.net(-1), 1);
        x.owes(11, 0, 7);
        CHECK.due("a ring is none", x.net(-1), 0);
        x.owes(3, 4, 1);
        x.owes(4, 3, 1);
        CHECK.due("there and back is none", x.net(-1), 0);
        CHECK.due("net(3)", x.net(3), 0);
    }

    private static void chainLimits() {
        CHECK.about("CHAIN of k (1 .. 9) and n (0 .. 99), out of m (1 .. 9999) people; 1 the first day (n not asked)");
        KindPostman x = new KindPostman();
        for (int k = -1; k <= 11; k++) {
            boolean can = k >= 1 && k <= 9;
            CHECK.due("by k " + k, x.chain(k, 9999, 1, 0), can ? 1 + k : -1);
            CHECK.due("all by k " + k, x.chain(k, 1, 0, 1), can ? 0 : -1);
        }
        for (int n = -2; n <= 102; n++) {
            boolean can = n >= 0 && n <= 99;
            CHECK.due("by day " + n, x.chain(1, 9999, n, 0), can ? 1 + n : -1);
            CHECK.due("all, n " + n + " not asked", x.chain(1, 5, n, 1), 4);
        }
        int[][] people = {{-1, -1, -1}, {0, -1, -1}, {1, 1, 0}, {2, 2, 1}, {9998, 9998, 5}, {9999, 9999, 5},
            {10000, -1, -1}};
        for (int[] p : people) {
            CHECK.due("of " + p[0] + " people", x.chain(9, p[0], 99, 0), p[1]);
            CHECK.due("all of " + p[0] + " people", x.chain(9, p[0], 0, 1), p[2]);
        }
        for (int what = -2; what <= 3; what++) {
            CHECK.due("what " + what, x.chain(2, 7, 2, what), what == 0 ? 7 : what == 1 ? 2 : -1);
        }
    }

    private static void chainByDays() {
        CHECK.about("how many had one by day n; the first day by which all have (NONE: not by 99)");
        KindPostman x = new KindPostman();
        CHECK.due("just all on day 3", x.chain(3, 40, 3, 0), 40);
        CHECK.due("by day 3", x.chain(3, 40, 0, 1), 3);
        CHECK.due("one is left on day 3", x.chain(3, 41, 3, 0), 40);
        CHECK.due("by day 4", x.chain(3, 41, 0, 1), 4);
        CHECK.due("one less on day 3", x.chain(3, 39, 3, 0), 39);
        CHECK.due("by day 3, too", x.chain(3, 39, 0, 1), 3);
        CHECK.due("100 one by one", x.chain(1, 100, 0, 1), 99);
        CHECK.due("101 one by one", x.chain(1, 101, 0, 1), -1);
        CHECK.due("nobody had it twice", x.chain(9, 2, 99, 0), 2);
    }

    private static void hasAndSpell() {
        CHECK.about("of letters 0 .. 25 there are told counts 0 .. 9 (0 at first), a told word has up to 8 letters");
        for (int letter = -2; letter <= 27; letter++) {
            KindPostman x = new KindPostman();
            boolean can = letter >= 0 && letter <= 25;
            CHECK.due("has(" + letter + ", 9)", x.has(letter, 9), can);
            CHECK.due("spell(" + letter + ")", x.spell(letter), letter == -1 ? 0 : can ? 1 : -1);
            CHECK.due("laid", x.lays(0), can ? 9 : 0);
        }
        for (int v = -1; v <= 10; v++) {
            KindPostman x = new KindPostman();
            x.spell(25);
            CHECK.due("at first", x.lays(0), 0);
            x.has(25, 5);
            boolean can = v >= 0 && v <= 9;
            CHECK.due("has(25, " + v + ")", x.has(25, v), can);
            CHECK.due("laid", x.lays(0), can ? v : 5);
        }
        KindPostman x = new KindPostman();
        x.has(4, 9);
        for (int i = 1; i <= 8; i++) {
            CHECK.due("spell " + i, x.spell(4), i);
            CHECK.due("laid of 9, with " + i, x.lays(0), 9 / i);
        }
        CHECK.due("the ninth", x.spell(4), -1);
        CHECK.due("laid still", x.lays(0), 1);
        CHECK.due("empty then", x.spell(-1), 0);
        CHECK.due("a first again", x.spell(4), 1);
    }

    private static void laysTimes() {
        CHECK.about("LAYS: how many times it can be laid of them (an empty word: 0)");
        KindPostman x = new KindPostman();
        for (int letter = 0; letter < 26; letter++) {
            x.has(letter, 9);
        }
        CHECK.due("an empty word", x.lays(0), 0);
        CHECK.due("its orders", x.lays(1), 1);
        int[] word = {0, 25, 25, 3};
        for (int letter : word) {
            x.spell(letter);
        }
        CHECK.due("by the doubled letter", x.lays(0), 4);
        x.has(25, 8);
        CHECK.due("by eight of it", x.lays(0), 4);
        x.has(25, 7);
        CHECK.due("by seven of it", x.lays(0), 3);
        x.has(25, 1);
        CHECK.due("by one of it", x.lays(0), 0);
        x.has(25, 9);
        x.has(0, 0);
        CHECK.due("by none of another", x.lays(0), 0);
    }

    private static void laysOrders() {
        CHECK.about("in how many orders its letters can stand (alike ones anyhow)");
        KindPostman x = new KindPostman();
        int due = 1;
        for (int i = 1; i <= 8; i++) {
            x.spell(25 - i);
            due *= i;
            CHECK.due("unlike letters " + i, x.lays(1), due);
        }
        x.spell(-1);
        for (int i = 1; i <= 8; i++) {
            x.spell(25);
            CHECK.due("alike letters " + i, x.lays(1), 1);
        }
        x.spell(-1);
        int[] pairs = {0, 1, 0, 1, 0, 1, 0, 1};
        for (int letter : pairs) {
            x.spell(letter);
        }
        CHECK.due("four and four", x.lays(1), 70);
    }

    private static void answersLimits() {
        CHECK.about("ANSWERS, up to 12 told: KIND a was answered by KIND b");
        for (int a = -2; a <= 8; a++) {
            for (int b = -2; b <= 8; b++) {
                KindPostman x = new KindPostman();
                boolean can = a >= 0 && a <= 6 && b >= 0 && b <= 6;
                CHECK.due("answer(" + a + ", " + b + ")", x.answer(a, b), a == -1 ? 0 : can ? 1 : -1);
                CHECK.due("likely(" + a + ", 0)", x.likely(a, 0), can ? b : -1);
            }
        }
        KindPostman x = new KindPostman();
        for (int i = 1; i <= 12; i++) {
            CHECK.due("answer " + i, x.answer(5, i <= 6 ? 1 : 0), i);
        }
        CHECK.due("six and six: the least", x.likely(5, 0), 0);
        CHECK.due("the thirteenth", x.answer(5, 1), -1);
        CHECK.due("it does not count", x.likely(5, 0), 0);
        CHECK.due("nothing is then", x.answer(-1, 0), 0);
        CHECK.due("never", x.likely(5, 0), -1);
        CHECK.due("a first again", x.answer(5, 1), 1);
    }

    private static void likelyLeast() {
        CHECK.about("LIKELY of a KIND: the KIND that answered it most often (of several the least; never: NONE)");
        KindPostman x = new KindPostman();
        int[] answers = {6, 5, 4};
        for (int b : answers) {
            x.answer(3, b);
            CHECK.due("of several the least", x.likely(3, 0), b);
        }
        x.answer(3, 6);
        CHECK.due("most often", x.likely(3, 0), 6);
        x.answer(3, 3);
        CHECK.due("a lesser one, not so often", x.likely(3, 0), 6);
        x.answer(3, 3);
        CHECK.due("as often", x.likely(3, 0), 3);
        for (int kind = -1; kind <= 7; kind++) {
            CHECK.due("likely(" + kind + ", 0)", x.likely(kind, 0), kind == 3 ? 3 : -1);
        }
    }

    private static void followsRound() {
        CHECK.about("behind how many one comes that was there (0: none is told of a; NONE: .. of which none is told)");
        for (int ring = 1; ring <= 7; ring++) {
            KindPostman x = new KindPostman();
            for (int kind = 0; kind < ring; kind++) {
                CHECK.due("none is told of " + kind, x.likely(kind, 1), 0);
                x.answer(kind, (kind + 1) % ring);
            }
            for (int kind = 0; kind < 7; kind++) {
                CHECK.due("a ring of " + ring + " from " + kind, x.likely(kind, 1), kind < ring ? ring : 0);
            }
        }
        KindPostman x = new KindPostman();
        for (int kind = 0; kind < 6; kind++) {
            x.answer(kind, kind + 1);
        }
        for (int kind = 0; kind < 7; kind++) {
            CHECK.due("a row from " + kind, x.likely(kind, 1), kind == 6 ? 0 : -1);
        }
        x.answer(6, 6);
        for (int kind = 0; kind < 7; kind++) {
            CHECK.due("a row into itself from " + kind, x.likely(kind, 1), 7 - kind);
        }
        CHECK.due("likely(-1, 1)", x.likely(-1, 1), -1);
        CHECK.due("likely(7, 1)", x.likely(7, 1), -1);
    }

    private static void boxed(KindPostman x, int door, int far) {
        CHECK.due("box(0)", x.box(0), door);
        CHECK.due("box(1)", x.box(1), far);
    }

    private static void boxes() {
        CHECK.about("BOX: the farthest one is nearest (of several the least; NONE: not all can be reached)");
        boxed(withDoors(0), -1, -1);
        for (int doors = 1; doors <= 12; doors++) {
            boxed(row(doors), (doors - 1) / 2, doors / 2);
            boxed(withDoors(doors), doors == 1 ? 0 : -1, doors == 1 ? 0 : -1);
        }
        KindPostman x = row(11);
        x.door(0, 0, 0);
        boxed(x, -1, -1);
        KindPostman y = withDoors(4);
        Words.tell(y, 3, "street 0 1 1; street 2 3 1;");
        boxed(y, -1, -1);
        Words.tell(y, 3, "street 0 1 1; street 2 3 1; street 1 2 99;");
        boxed(y, 1, 100);
        Words.tell(y, 3, "street 3 0 99; street 3 1 99; street 3 2 99;");
        boxed(y, 3, 99);
        Words.tell(y, 3, "street 3 0 9; street 3 1 9; street 3 2 9; street 0 1 1; street 0 2 1;");
        boxed(y, 0, 9);
    }

    private static void faceLimits() {
        CHECK.about("FACES: up to 8 told: a DOOR's FACE changed by d (-2 .. 2), and of letters 0 .. 5 (a set)");
        for (int letters = -3; letters <= 66; letters++) {
            KindPostman x = new KindPostman();
            boolean can = letters >= 0 && letters <= 63;
            CHECK.due("face(" + letters + ", 0)", x.face(letters, 0), letters == -1 ? 0 : can ? 1 : -1);
        }
        for (int d = -4; d <= 4; d++) {
            KindPostman x = new KindPostman();
            boolean can = d >= -2 && d <= 2;
            CHECK.due("face(3, " + d + ")", x.face(3, d), can ? 1 : -1);
            int[] ways = {9, 12, 10, 10, 5};
            CHECK.due("ways", x.faces(0), can ? ways[d + 2] * 7 * 7 * 7 * 7 : 117649);
        }
        KindPostman x = new KindPostman();
        for (int i = 1; i <= 8; i++) {
            CHECK.due("face " + i, x.face(1, 2), i);
        }
        CHECK.due("the ninth", x.face(1, 1), -1);
        CHECK.due("it does not count", x.faces(0), 16807);
        CHECK.due("nothing is then", x.face(-1, 0), 0);
        CHECK.due("a first again", x.face(1, 2), 1);
    }

    private static void facesOfNone() {
        CHECK.about("KINDS of letters 0 .. 5 that allow all told: in how many ways; (no way: 0)");
        KindPostman x = new KindPostman();
        CHECK.due("nothing told: ways", x.faces(0), 117649);
        CHECK.due("nothing told: sure", x.faces(1), 0);
        x.face(0, 0);
        CHECK.due("no letters, no change: ways", x.faces(0), 117649);
        for (int d = -2; d <= 2; d++) {
            KindPostman y = new KindPostman();
            y.face(0, d);
            CHECK.due("no letters, by " + d, y.faces(0), d == 0 ? 117649 : 0);
            CHECK.due("none sure, by " + d, y.faces(1), 0);
            KindPostman z = new KindPostman();
            z.face(1, 2);
            z.face(0, d);
            CHECK.due("one is sure, if there is a way, by " + d, z.faces(1), d == 0 ? 1 : 0);
        }
        x.face(63, 1);
        x.face(63, 2);
        CHECK.due("one change against another: ways", x.faces(0), 0);
        CHECK.due("one change against another: sure", x.faces(1), 0);
    }

    private static void facesOfOne() {
        CHECK.about("(each 0 .. 6: news, bill, anger -1, kiss 1, joke 2, others 0)");
        int[] ways = {0, 3, 2, 1, 1};
        for (int letter = 0; letter < 6; letter++) {
            for (int d = -2; d <= 2; d++) {
                KindPostman x = new KindPostman();
                x.face(1 << letter, d);
                CHECK.due("letter " + letter + " by " + d, x.faces(0), ways[d + 2] * 16807);
                CHECK.due("letter " + letter + " is sure by " + d, x.faces(1), d == -2 ? 0 : 1 << letter);
            }
        }
        KindPostman x = new KindPostman();
        for (int letter = 0; letter < 6; letter++) {
            x.face(1 << letter, -1);
        }
        CHECK.due("all by -1: ways", x.faces(0), 729);
        CHECK.due("all by -1: sure", x.faces(1), 63);
    }

    private static void facesSure() {
        CHECK.about("letters that are sure to be one KIND's change (of -1, 0, 1, 2 only one can be): a set");
        KindPostman x = new KindPostman();
        x.face(3, -2);
        CHECK.due("the least sum", x.faces(1), 3);
        x.face(-1, 0);
        x.face(3, -1);
        CHECK.due("-1 and 0, or 0 and -1", x.faces(1), 0);
        x.face(1, 0);
        CHECK.due("the one tells the other", x.faces(1), 3);
        x.face(-1, 0);
        x.face(7, -2);
        CHECK.due("of three -2", x.faces(0), (3 * 3 * 2 * 3) * 343);
        x.face(3, -2);
        CHECK.due("two of them are -2: the third is 0", x.faces(1), 7);
        CHECK.due("in ways", x.faces(0), 9 * 2 * 343);
        x.face(-1, 0);
        x.face(48, 2);
        x.face(32, 2);
        CHECK.due("the highest letters", x.faces(1), 48);
        CHECK.due("their ways", x.faces(0), 2 * 2401);
    }

    private static void joyIs(KindPostman x, int joy, int begin) {
        CHECK.due("joy(0)", x.joy(0), joy);
        CHECK.due("joy(1)", x.joy(1), begin);
    }

    private static KindPostman smiling(int... faces) {
        KindPostman x = new KindPostman();
        for (int face : faces) {
            x.door(face, 0, 0);
        }
        return x;
    }

    private static void joys() {
        CHECK.about("JOY: side by side by number (a row; at least one): that; where it begins (of several the first)");
        joyIs(smiling(), -100, -100);
        for (int face = -9; face <= 9; face++) {
            joyIs(smiling(face), face, 0);
        }
        joyIs(smiling(-9, -9, -9, -9, -9, -9, -9, -9, -9, -9, -9, -9), -9, 0);
        joyIs(smiling(9, 9, 9, 9, 9, 9, 9, 9, 9, 9, 9, 9), 108, 0);
        joyIs(smiling(-9, -9, -9, -9, -9, -9, -9, -9, -9, -9, -9, 9), 9, 11);
        joyIs(smiling(-9, -9, -9, -9, -9, -9, -9, -9, -9, -9, -9, -8), -8, 11);
        joyIs(smiling(0, 0, 0), 0, 0);
        joyIs(smiling(-1, 0, 0), 0, 1);
        joyIs(smiling(5, -5, 5), 5, 0);
        joyIs(smiling(5, -4, 5), 6, 0);
        joyIs(smiling(5, -6, 5), 5, 0);
        joyIs(smiling(0, 5), 5, 0);
        joyIs(smiling(1, -2, 5, -6, 6), 6, 4);
    }

    private static KindPostman piles(int... piles) {
        KindPostman x = withDoors(piles.length);
        for (int d = piles.length - 1; d >= 0; d--) {
            for (int i = 0; i < piles[d]; i++) {
                x.post(d, 5, 1);
            }
        }
        return x;
    }

    private static void gameIs(KindPostman x, int door, int many) {
        CHECK.due("game(0)", x.game(0), door);
        CHECK.due("game(1)", x.game(1), many);
    }

    private static void games() {
        CHECK.about("take 1 or 2 LETTERS of one DOOR; who takes the last one of all wins; NONE if who begins loses");
        gameIs(piles(), -1, -1);
        gameIs(piles(0, 0), -1, -1);
        for (int letters = 1; letters <= 24; letters++) {
            int rest = letters % 3;
            gameIs(piles(0, letters), rest == 0 ? -1 : 1, rest == 0 ? -1 : rest);
        }
        gameIs(piles(1, 1), -1, -1);
        gameIs(piles(1, 2), 1, 1);
        gameIs(piles(2, 1), 0, 1);
        gameIs(piles(2, 2), -1, -1);
        gameIs(piles(1, 1, 1), 0, 1);
        gameIs(piles(2, 2, 2), 0, 2);
        gameIs(piles(3, 1), 0, 2);
        gameIs(piles(3, 2), 0, 1);
        gameIs(piles(1, 3), 0, 1);
        gameIs(piles(2, 4), 0, 1);
        gameIs(piles(4, 2), 0, 2);
        gameIs(piles(4, 1), -1, -1);
        gameIs(piles(3, 3, 2), 0, 1);
        gameIs(piles(3, 3, 3), -1, -1);
        gameIs(piles(0, 0, 0, 0, 0, 0, 0, 0, 0, 0, 0, 1), 11, 1);
        gameIs(piles(2, 2, 2, 2, 2, 2, 2, 2, 2, 2, 2, 2), -1, -1);
        gameIs(piles(2, 2, 2, 2, 2, 2, 2, 2, 2, 2, 2, 1), 0, 1);
    }
}
