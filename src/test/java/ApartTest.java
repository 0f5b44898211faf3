import java.util.LinkedHashMap;
import java.util.Map;
import java.util.function.Supplier;
import java.util.function.ToLongFunction;

/** Terms 4, IN THOUGHT (nothing of it stays): no thought is thought in another way because of one before it. */
public final class ApartTest {
    private static final Check CHECK = new Check();

    public static void main(String[] args) {
        CHECK.about("IN THOUGHT (nothing of it stays ..)");
        thinkInPairs("rich", States::rich);
        thinkInPairs("full", States::full);
        thinkInPairs("full, with streets", ApartTest::fullWithStreets);
        CHECK.end();
    }

    private static KindPostman fullWithStreets() {
        KindPostman x = States.full();
        x.end(0);
        StringBuilder text = new StringBuilder();
        for (int i = 0; i < 11; i++) {
            text.append("street ").append(i).append(" ").append(i + 1).append(" ").append(i + 5).append(";");
        }
        Words.tell(x, 3, text.toString());
        return x;
    }

    private static Map<String, ToLongFunction<KindPostman>> thoughts() {
        Map<String, ToLongFunction<KindPostman>> all = new LinkedHashMap<>();
        all.put("goes(9, 0)", x -> x.goes(9, 0));
        all.put("goes(60, 3)", x -> x.goes(60, 3));
        all.put("shortest(0, 0)", x -> x.shortest(0, 0));
        all.put("shortest(2, 1)", x -> x.shortest(2, 1));
        all.put("bears(60, 0)", x -> x.bears(60, 0));
        all.put("bears(99, 1)", x -> x.bears(99, 1));
        all.put("carries(400, 0)", x -> x.carries(400, 0));
        all.put("carries(50, 1)", x -> x.carries(50, 1));
        all.put("net(-1)", x -> x.net(-1));
        all.put("net(3)", x -> x.net(3));
        all.put("chain(2, 99, 3, 0)", x -> x.chain(2, 99, 3, 0));
        all.put("chain(2, 99, 3, 1)", x -> x.chain(2, 99, 3, 1));
        all.put("lays(0)", x -> x.lays(0));
        all.put("lays(1)", x -> x.lays(1));
        all.put("likely(2, 0)", x -> x.likely(2, 0));
        all.put("likely(2, 1)", x -> x.likely(2, 1));
        all.put("box(0)", x -> x.box(0));
        all.put("box(1)", x -> x.box(1));
        all.put("faces(0)", x -> x.faces(0));
        all.put("faces(1)", x -> x.faces(1));
        all.put("joy(0)", x -> x.joy(0));
        all.put("joy(1)", x -> x.joy(1));
        all.put("game(0)", x -> x.game(0));
        all.put("game(1)", x -> x.game(1));
        all.put("letter(0, 5)", x -> x.letter(0, 5));
        return all;
    }

    private static void thinkInPairs(String name, Supplier<KindPostman> state) {
        Map<String, ToLongFunction<KindPostman>> all = thoughts();
        for (String second : all.keySet()) {
            long alone = all.get(second).applyAsLong(state.get());
            for (String first : all.keySet()) {
                KindPostman x = state.get();
                all.get(first).applyAsLong(x);
                CHECK.due(name + ": " + second + " behind " + first, all.get(second).applyAsLong(x), alone);
            }
        }
    }
}
