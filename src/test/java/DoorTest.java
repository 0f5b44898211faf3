/** Promises 2 (state), 3 (door), 4 (set), 13 (of). */
public final class DoorTest {
    private static final Check CHECK = new Check();

    public static void main(String[] args) {
        states();
        doors();
        sets();
        ofDoors();
        streets();
        CHECK.end();
    }

    private static void states() {
        KindPostman x = new KindPostman();
        CHECK.due("state at first", x.state(7), 0);
        CHECK.due("state again", x.state(Integer.MIN_VALUE), 7);
        CHECK.due("state lowest", x.state(-1), Integer.MIN_VALUE);
        CHECK.due("look(10)", x.look(10), -1);
    }

    private static void doors() {
        KindPostman x = new KindPostman();
        int[][] wrong = {{-10, 0, 0}, {10, 0, 0}, {0, -1, 0}, {0, 10, 0}, {0, 0, -1}, {0, 0, 1000},
            {Integer.MAX_VALUE, 0, 0}, {0, Integer.MIN_VALUE, 0}};
        for (int[] w : wrong) {
            CHECK.due("a door that can't be", x.door(w[0], w[1], w[2]), -1);
        }
        CHECK.due("no door yet", x.look(0), 0);
        CHECK.due("the least door", x.door(-9, 0, 0), 0);
        CHECK.due("the greatest door", x.door(9, 9, 999), 1);
        for (int i = 2; i < 12; i++) {
            CHECK.due("door " + i, x.door(i - 5, i % 10, i), i);
        }
        CHECK.due("the thirteenth door", x.door(0, 0, 0), -1);
        CHECK.due("look(0)", x.look(0), 12);
        CHECK.due("face of 0", x.of(0, 0), -9);
        CHECK.due("love of 1", x.of(1, 1), 9);
        CHECK.due("purse of 1", x.of(1, 2), 999);
        CHECK.due("face of 11", x.of(11, 0), 6);
        CHECK.due("got at first", x.of(11, 3), 0);
    }

    private static void sets() {
        KindPostman x = new KindPostman();
        x.door(1, 2, 3);
        x.door(4, 5, 6);
        int[][] edges = {{-9, 9}, {0, 9}, {0, 999}, {0, 99}, {0, 99}};
        for (int what = 0; what < 5; what++) {
            int who = what < 3 ? 1 : Integer.MIN_VALUE;
            for (int edge = 0; edge < 2; edge++) {
                int v = edges[what][edge];
                CHECK.due("set " + what + " to " + v, x.set(what, who, v), true);
                CHECK.due("what " + what + " is then", seen(x, what), v);
                CHECK.due("set " + what + " beyond", x.set(what, who, edge == 0 ? v - 1 : v + 1), false);
                CHECK.due("what " + what + " stays", seen(x, what), v);
            }
        }
        CHECK.due("the other door's face stays", x.of(0, 0), 1);
        CHECK.due("the other door's love stays", x.of(0, 1), 2);
        CHECK.due("the other door's purse stays", x.of(0, 2), 3);
        CHECK.due("a door that is not", x.set(0, 2, 0), false);
        CHECK.due("door NONE", x.set(1, -1, 0), false);
        CHECK.due("what 5", x.set(5, 0, 0), false);
        CHECK.due("what -1", x.set(-1, 0, 0), false);
    }

    private static int seen(KindPostman x, int what) {
        return what < 3 ? x.of(1, what) : x.look(what - 1);
    }

    private static void ofDoors() {
        KindPostman x = new KindPostman();
        x.door(0, 3, 8);
        x.post(0, 5, 1);
        x.post(0, 5, 1);
        CHECK.due("letters for it", x.of(0, 4), 2);
        x.state(0);
        CHECK.due("a text is brought", x.bring(0), 1);
        CHECK.due("got", x.of(0, 3), 1);
        CHECK.due("letters left for it", x.of(0, 4), 1);
        int[] others = {5, 9, -1, 11, 22, Integer.MIN_VALUE, Integer.MAX_VALUE};
        for (int what : others) {
            CHECK.due("of(0, " + what + ")", x.of(0, what), -100);
        }
        CHECK.due("no such door", x.of(1, 0), -100);
        CHECK.due("door NONE", x.of(-1, 0), -100);
    }

    private static void streets() {
        KindPostman x = new KindPostman();
        for (int i = 0; i < 12; i++) {
            x.door(0, 0, 0);
        }
        CHECK.due("no street yet", x.of(0, 11), -1);
        CHECK.due("streets", Words.tell(x, 3, "street 0 1 9; street 1 0 4; street 0 1 7; street 11 2 99;"), 4);
        CHECK.due("the shortest of several", x.of(0, 11), 4);
        CHECK.due("the other way", x.of(1, 10), 4);
        CHECK.due("to the last", x.of(2, 21), 99);
        CHECK.due("from the last", x.of(11, 12), 99);
        CHECK.due("none, though there is a way", x.of(0, 12), -1);
        CHECK.due("himself", x.of(0, 10), -1);
        CHECK.due("a new text", Words.tell(x, 3, "street 3 4 1;"), 1);
        CHECK.due("the old one is gone", x.of(0, 11), -1);
    }
}
