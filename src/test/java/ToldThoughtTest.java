/** Promises 19 (blow), 20 (bears), 22 (owes), 23 (net), 24 (chain), 25 to 29 (words, answers), 31, 32 (faces). */
public final class ToldThoughtTest {
    private static final Check CHECK = new Check();

    public static void main(String[] args) {
        blows();
        bears();
        owes();
        fewest();
        chain();
        words();
        answers();
        follows();
        face();
        faces();
        CHECK.end();
    }

    private static void blows() {
        KindPostman x = new KindPostman();
        int[] wrong = {-51, 51, Integer.MIN_VALUE, Integer.MAX_VALUE};
        for (int v : wrong) {
            CHECK.due("blow(" + v + ")", x.blow(v), -1);
        }
        int[] told = {-50, 50, -1, 1, 2, 3, 4, 5};
        for (int i = 0; i < 8; i++) {
            CHECK.due("blow " + i, x.blow(told[i]), i + 1);
        }
        CHECK.due("there are eight", x.blow(1), -1);
        CHECK.due("none are then", x.blow(0), 0);
        CHECK.due("begun anew", x.blow(-7), 1);
        CHECK.due("the new one alone", x.bears(10, 1), 3);
    }

    private static KindPostman blown(int... blows) {
        KindPostman x = new KindPostman();
        for (int v : blows) {
            x.blow(v);
        }
        return x;
    }

    private static void bears() {
        KindPostman x = blown();
        CHECK.due("without any: the first", x.bears(99, 0), -1);
        CHECK.due("without any: left", x.bears(99, 1), 99);
        x = blown(-20, 10, 15);
        CHECK.due("the blow can't be first", x.bears(20, 0), 1);
        CHECK.due("it can", x.bears(21, 0), 0);
        CHECK.due("left", x.bears(20, 1), 25);
        CHECK.due("too weak", x.bears(5, 0), 1);
        CHECK.due("the second rest does", x.bears(6, 1), 11);
        CHECK.due("one is not enough", blown(-20, 10, 5).bears(5, 0), -1);
        CHECK.due("one is not enough: left", blown(-20, 10, 5).bears(5, 1), -1);
        x = blown(50, -50, 50);
        CHECK.due("99 at most: blow first", x.bears(99, 1), 99);
        x = blown(50, -30);
        CHECK.due("rest behind the blow is worth more", x.bears(90, 1), 99);
        CHECK.due("any order can be", x.bears(90, 0), 0);
        x = blown(-50, -48);
        CHECK.due("never below 1", x.bears(99, 1), 1);
        CHECK.due("98 is not enough", x.bears(98, 1), -1);
        CHECK.due("left with 1, he bore it", x.bears(99, 0), 0);
        CHECK.due("health 1 can be", blown(5).bears(1, 1), 6);
        CHECK.due("health 1: the first", blown(-5, 9).bears(1, 0), 1);
        CHECK.due("health 0 can't be", blown(5).bears(0, 1), -1);
        CHECK.due("health 0 can't be: the first", blown(5).bears(0, 0), -1);
        CHECK.due("health 100 can't be", blown(5).bears(100, 1), -1);
        CHECK.due("what 2", blown(5).bears(9, 2), -1);
        x = blown(-50, 30, -50, 20, 10);
        CHECK.due("five: the first", x.bears(51, 0), 0);
        CHECK.due("five: left", x.bears(51, 1), 11);
        CHECK.due("five: both blows behind the rests", x.bears(45, 1), 5);
        CHECK.due("by the third alone", blown(-30, -40, 45).bears(40, 0), 0);
        CHECK.due("by the third first", blown(-40, -30, 35).bears(40, 0), 1);
        CHECK.due("left then", blown(-40, -30, 35).bears(40, 1), 5);
        int[][] wrong = {{0, 1}, {100, 1}, {-1, 1}, {99, 2}, {99, -1}};
        for (int[] w : wrong) {
            CHECK.due("bears(" + w[0] + ", " + w[1] + ")", x.bears(w[0], w[1]), -1);
        }
        x = blown(-10, -10, -10, -10, -10, -10, -10, 50);
        CHECK.due("eight: the first", x.bears(22, 0), 0);
        CHECK.due("eight: left", x.bears(22, 1), 2);
        CHECK.due("eight: the rest alone begins", x.bears(10, 0), -1);
        CHECK.due("eight: can't be", x.bears(20, 1), -1);
    }

    private static void owes() {
        KindPostman x = new KindPostman();
        int[][] wrong = {{-2, 0, 1}, {12, 0, 1}, {0, -1, 1}, {0, 12, 1}, {4, 4, 1}, {0, 1, 0}, {0, 1, 100}};
        for (int[] w : wrong) {
            CHECK.due("a debt that can't be", x.owes(w[0], w[1], w[2]), -1);
        }
        for (int i = 1; i <= 16; i++) {
            CHECK.due("owes " + i, x.owes(11, i % 11, i == 16 ? 99 : 1), i);
        }
        CHECK.due("there are sixteen", x.owes(0, 1, 1), -1);
        CHECK.due("net of 11", x.net(11), -114);
        CHECK.due("net of 0", x.net(0), 1);
        CHECK.due("net of 5", x.net(5), 100);
        CHECK.due("net of 1", x.net(1), 2);
        CHECK.due("net of 6", x.net(6), 1);
        CHECK.due("nothing is then", x.owes(-1, 99, -99), 0);
        CHECK.due("net of 11 then", x.net(11), 0);
        CHECK.due("fewest then", x.net(-1), 0);
        CHECK.due("begun anew", x.owes(0, 1, 1), 1);
        CHECK.due("net(12)", x.net(12), -10000);
        CHECK.due("net(-2)", x.net(-2), -10000);
    }

    private static int settled(int... debts) {
        KindPostman x = new KindPostman();
        for (int i = 0; i < debts.length; i += 3) {
            x.owes(debts[i], debts[i + 1], debts[i + 2]);
        }
        return x.net(-1);
    }

    private static void fewest() {
        CHECK.due("one", settled(0, 1, 5), 1);
        CHECK.due("through another", settled(0, 1, 5, 1, 2, 5), 1);
        CHECK.due("round and round", settled(0, 1, 5, 1, 2, 5, 2, 0, 5), 0);
        CHECK.due("three in one group", settled(0, 1, 5, 0, 2, 6), 2);
        CHECK.due("two groups hidden in a chain", settled(0, 1, 5, 2, 3, 5, 0, 3, 1, 2, 1, 1), 2);
        CHECK.due("groups of three", settled(0, 1, 3, 0, 2, 4, 3, 5, 2, 4, 5, 9), 4);
        CHECK.due("nets of 1", settled(0, 1, 1, 2, 3, 1, 4, 5, 1), 3);
        CHECK.due("one pair, one group of three", settled(0, 1, 7, 2, 3, 4, 2, 4, 5, 0, 3, 2, 2, 1, 2), 3);
        KindPostman x = new KindPostman();
        x.carries(5, 0);
        x.owes(0, 1, 3);
        CHECK.due("behind another thought", x.net(-1), 1);
        x.door(0, 0, 0);
        x.post(0, 0, 1);
        x.carries(5, 0);
        x.owes(2, 3, 4);
        CHECK.due("behind another thought again", x.net(-1), 2);
        CHECK.due("and the other one behind it", x.carries(5, 1), 1);
        CHECK.due("all twelve in pairs", settled(0, 6, 1, 1, 7, 2, 2, 8, 3, 3, 9, 4, 4, 10, 5, 5, 11, 6), 6);
    }

    private static void chain() {
        KindPostman x = new KindPostman();
        CHECK.due("on day 0", x.chain(9, 9999, 0, 0), 1);
        CHECK.due("on day 1", x.chain(9, 9999, 1, 0), 10);
        CHECK.due("on day 4", x.chain(9, 9999, 4, 0), 7381);
        CHECK.due("on day 5 all", x.chain(9, 9999, 5, 0), 9999);
        CHECK.due("on day 99", x.chain(9, 9999, 99, 0), 9999);
        CHECK.due("the first day", x.chain(9, 9999, 0, 1), 5);
        CHECK.due("n is not asked", x.chain(9, 9999, -5, 1), 5);
        CHECK.due("one by one", x.chain(1, 101, 99, 0), 100);
        CHECK.due("not by 99", x.chain(1, 101, 99, 1), -1);
        CHECK.due("by 99", x.chain(1, 100, 100, 1), 99);
        CHECK.due("alone", x.chain(5, 1, 50, 0), 1);
        CHECK.due("alone from the first day on", x.chain(5, 1, 50, 1), 0);
        int[][] wrong = {{0, 5, 1, 0}, {10, 5, 1, 0}, {1, 0, 1, 0}, {1, 10000, 1, 0}, {1, 5, -1, 0}, {1, 5, 100, 0},
            {1, 5, 1, 2}, {1, 5, 1, -1}, {0, 5, 1, 1}, {1, 0, 1, 1}};
        for (int[] w : wrong) {
            CHECK.due("a chain that can't be", x.chain(w[0], w[1], w[2], w[3]), -1);
        }
    }

    private static void words() {
        KindPostman x = new KindPostman();
        int[][] wrong = {{-1, 1}, {26, 1}, {0, -1}, {0, 10}};
        for (int[] w : wrong) {
            CHECK.due("has(" + w[0] + ", " + w[1] + ")", x.has(w[0], w[1]), false);
        }
        CHECK.due("has", x.has(25, 9), true);
        CHECK.due("has", x.has(0, 8), true);
        CHECK.due("an empty word", x.lays(0), 0);
        CHECK.due("its orders", x.lays(1), 1);
        CHECK.due("spell(-2)", x.spell(-2), -1);
        CHECK.due("spell(26)", x.spell(26), -1);
        CHECK.due("spell z", x.spell(25), 1);
        CHECK.due("nine times", x.lays(0), 9);
        x.spell(25);
        CHECK.due("four times", x.lays(0), 4);
        CHECK.due("one order", x.lays(1), 1);
        x.spell(0);
        CHECK.due("z z a", x.lays(0), 4);
        CHECK.due("three orders", x.lays(1), 3);
        x.has(0, 3);
        CHECK.due("by the a", x.lays(0), 3);
        x.has(0, 0);
        CHECK.due("no a", x.lays(0), 0);
        CHECK.due("empty then", x.spell(-1), 0);
        CHECK.due("no times", x.lays(0), 0);
        for (int i = 1; i <= 8; i++) {
            CHECK.due("spell " + i, x.spell(i), i);
        }
        CHECK.due("there are eight", x.spell(1), -1);
        CHECK.due("all unlike", x.lays(1), 40320);
        CHECK.due("lays(2)", x.lays(2), -1);
        CHECK.due("lays(-1)", x.lays(-1), -1);
        x.spell(-1);
        int[] word = {3, 4, 3, 5, 5, 3, 4, 3};
        for (int letter : word) {
            x.spell(letter);
        }
        CHECK.due("8! / 4! / 2! / 2!", x.lays(1), 420);
    }

    private static void answers() {
        KindPostman x = new KindPostman();
        int[][] wrong = {{-2, 0}, {7, 0}, {0, -1}, {0, 7}};
        for (int[] w : wrong) {
            CHECK.due("answer(" + w[0] + ", " + w[1] + ")", x.answer(w[0], w[1]), -1);
        }
        CHECK.due("never", x.likely(6, 0), -1);
        x.answer(6, 4);
        x.answer(6, 3);
        CHECK.due("of several the least", x.likely(6, 0), 3);
        x.answer(6, 4);
        CHECK.due("most often", x.likely(6, 0), 4);
        CHECK.due("not the other way", x.likely(4, 0), -1);
        for (int i = 4; i <= 12; i++) {
            CHECK.due("answer " + i, x.answer(0, 6), i);
        }
        CHECK.due("there are twelve", x.answer(0, 0), -1);
        CHECK.due("nothing is then", x.answer(-1, 9), 0);
        CHECK.due("never then", x.likely(6, 0), -1);
        CHECK.due("begun anew", x.answer(0, 0), 1);
        int[][] none = {{-1, 0}, {7, 0}, {0, 2}, {0, -1}};
        for (int[] n : none) {
            CHECK.due("likely(" + n[0] + ", " + n[1] + ")", x.likely(n[0], n[1]), -1);
        }
    }

    private static void follows() {
        KindPostman x = new KindPostman();
        x.answer(0, 0);
        CHECK.due("himself", x.likely(0, 1), 1);
        CHECK.due("none is told", x.likely(1, 1), 0);
        x.answer(1, 2);
        CHECK.due("it comes to one of which none is told", x.likely(1, 1), -1);
        x.answer(2, 3);
        x.answer(3, 2);
        CHECK.due("1 2 3, then 2", x.likely(1, 1), 3);
        CHECK.due("2 3, then 2", x.likely(2, 1), 2);
        x.answer(-1, 0);
        for (int kind = 0; kind < 7; kind++) {
            x.answer(kind, (kind + 1) % 7);
        }
        CHECK.due("all seven", x.likely(4, 1), 7);
    }

    private static void face() {
        KindPostman x = new KindPostman();
        int[][] wrong = {{-2, 0}, {64, 0}, {1, -3}, {1, 3}};
        for (int[] w : wrong) {
            CHECK.due("face(" + w[0] + ", " + w[1] + ")", x.face(w[0], w[1]), -1);
        }
        for (int i = 1; i <= 8; i++) {
            CHECK.due("face " + i, x.face(63, i % 2), i);
        }
        CHECK.due("there are eight", x.face(1, 0), -1);
        CHECK.due("they contradict one another", x.faces(0), 0);
        CHECK.due("no way: none is sure", x.faces(1), 0);
        CHECK.due("nothing is then", x.face(-1, 99), 0);
        CHECK.due("any way then", x.faces(0), 117649);
    }

    private static void faces() {
        KindPostman x = new KindPostman();
        int rest = 7 * 7 * 7 * 7 * 7;
        int[] ways = {0, 3, 2, 1, 1};
        for (int d = -2; d <= 2; d++) {
            x.face(-1, 0);
            x.face(32, d);
            CHECK.due("one letter, changed by " + d, x.faces(0), rest * ways[d + 2]);
            CHECK.due("sure, changed by " + d, x.faces(1), d == -2 ? 0 : 32);
        }
        x.face(-1, 0);
        x.face(3, -2);
        CHECK.due("two letters by -2", x.faces(0), 9 * 7 * 7 * 7 * 7);
        CHECK.due("both are sure", x.faces(1), 3);
        x.face(12, 0);
        CHECK.due("two more by 0", x.faces(0), 9 * (3 + 4 + 3) * 49);
        CHECK.due("these are not sure", x.faces(1), 3);
        x.face(4, 1);
        CHECK.due("now they are", x.faces(1), 15);
        x.face(-1, 0);
        x.face(0, 0);
        CHECK.due("nobody's letters, no change", x.faces(0), 117649);
        x.face(0, 1);
        CHECK.due("nobody's letters, a change", x.faces(0), 0);
        x.face(-1, 0);
        x.face(0, -1);
        CHECK.due("nobody's letters, a change down", x.faces(0), 0);
        CHECK.due("none is sure", x.faces(1), 0);
        CHECK.due("faces(2)", x.faces(2), -1);
        CHECK.due("faces(-1)", x.faces(-1), -1);
    }
}
