/** Promise 1: an empty bag; and the constant. */
public final class NewTest {
    public static void main(String[] args) {
        Check check = new Check();
        KindPostman x = new KindPostman();
        int[] looks = {0, 0, 99, 0, 0, 0, 0, 0, 0, 0, 0, 0, 0, 0, 0, 0};
        for (int what = 0; what < looks.length; what++) {
            check.due("look(" + what + ")", x.look(what), looks[what]);
        }
        check.due("NONE", KindPostman.NONE, -1);
        check.end();
    }
}
