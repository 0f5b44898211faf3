import java.util.LinkedHashMap;
import java.util.List;
import java.util.Map;
import java.util.Objects;
import java.util.Set;
import java.util.TreeSet;

/**
 * What can be seen of an object, by call. Of long rows the ends alone are looked at, so that an object that was
 * made with some 150 calls stays within the 512 calls for which it is promised to answer.
 */
final class Seen {
    private final KindPostman x;
    private final Map<String, Long> answers = new LinkedHashMap<>();

    private Seen(KindPostman x) {
        this.x = x;
    }

    /** What is, without what is thought of it; nothing changes by this. */
    static Map<String, Long> facts(KindPostman x) {
        Seen seen = new Seen(x);
        seen.lookAtAll();
        return seen.answers;
    }

    /** What is and what is thought of it; nothing changes by this. */
    static Map<String, Long> still(KindPostman x) {
        Seen seen = new Seen(x);
        seen.lookAtAll();
        seen.think();
        return seen.answers;
    }

    /** All that can be seen, the TAPE, what can be undone and THE IMAGE, too: the object is of no more use then. */
    static Map<String, Long> all(KindPostman x) {
        Seen seen = new Seen(x);
        seen.lookAtAll();
        seen.think();
        seen.useUp();
        return seen.answers;
    }

    /** The calls that were answered in two ways, sorted. */
    static String differences(Map<String, Long> a, Map<String, Long> b) {
        Set<String> calls = new TreeSet<>(a.keySet());
        calls.addAll(b.keySet());
        calls.removeIf(call -> Objects.equals(a.get(call), b.get(call)));
        return String.join(" ", calls);
    }

    static String sorted(String calls) {
        return String.join(" ", new TreeSet<>(List.of(calls.split(" "))));
    }

    private void put(String call, long answer) {
        answers.put(call, answer);
    }

    private static boolean isAtAnEnd(int i, int size, int ends) {
        return size <= 5 * ends || i < ends || i >= size - ends;
    }

    private void lookAtAll() {
        for (int what = 0; what < 16; what++) {
            put("look(" + what + ")", x.look(what));
        }
        put("fault(0)", x.fault(0));
        put("fault(1)", x.fault(1));
        for (int kind = 0; kind < 7; kind++) {
            put("given(" + kind + ")", x.given(kind));
        }
        int doors = x.look(0);
        for (int d = 0; d < doors; d++) {
            for (int what = 0; what < 13 && isAtAnEnd(d, doors, 1); what += what == 4 ? 6 : 1) {
                put("of(" + d + "," + what + ")", x.of(d, what));
            }
        }
        int letters = x.look(1);
        for (int i = 0; i < letters; i++) {
            for (int what = 0; what < 8 && isAtAnEnd(i, letters, 2); what++) {
                put("letter(" + i + "," + what + ")", x.letter(i, what));
            }
        }
        int lines = x.look(9);
        for (int i = 0; i < lines; i++) {
            for (int what = 0; what < 4 && isAtAnEnd(i, lines, 4); what++) {
                put("book(" + i + "," + what + ")", x.book(i, what));
            }
        }
    }

    private void think() {
        for (int what = 0; what < 4; what++) {
            put("goes(2," + what + ")", x.goes(2, what));
        }
        for (int door = -1; door < 12; door++) {
            put("net(" + door + ")", x.net(door));
        }
        for (int what = 0; what < 2; what++) {
            put("shortest(0," + what + ")", x.shortest(0, what));
            put("bears(60," + what + ")", x.bears(60, what));
            put("carries(50," + what + ")", x.carries(50, what));
            put("lays(" + what + ")", x.lays(what));
            for (int kind = 0; kind < 7; kind++) {
                put("likely(" + kind + "," + what + ")", x.likely(kind, what));
            }
            put("box(" + what + ")", x.box(what));
            put("faces(" + what + ")", x.faces(what));
            put("joy(" + what + ")", x.joy(what));
            put("game(" + what + ")", x.game(what));
        }
    }

    private void useUp() {
        for (int i = 0; i < 7; i++) {
            put("undo" + i, x.undo() ? 1 : 0);
            int[] whats = {1, 2, 6, 7, 8, 9, 10};
            for (int what : whats) {
                put("undo" + i + ".look(" + what + ")", x.look(what));
            }
        }
        put("feed", x.feed(0x20202020, 0x20202020, 0x20202020, 0x20202020, 0x20202020));
        put("text", x.text(0));
        put("text.fault(0)", x.fault(0));
        put("text.fault(1)", x.fault(1));
        put("text.look(11)", x.look(11));
        put("image", x.image(false) ? 1 : 0);
        for (int what = 0; what < 16; what++) {
            put("image.look(" + what + ")", x.look(what));
        }
        put("image.post", x.post(0, 5, 1));
    }
}
