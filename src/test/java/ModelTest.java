import java.util.Random;

/** All promises: long runs of calls by chance, each answer held against the Model's. */
public final class ModelTest {
    private static final int RUNS = 400;
    private static final int CALLS = 511;
    private static final int[] ODD = {Integer.MIN_VALUE, -1000, -100, -10, -3, -2, -1, 0, 1, 2, 3, 7, 8, 9, 10, 12,
        16, 24, 26, 60, 61, 64, 99, 100, 400, 401, 999, 1000, 9999, 10000, Integer.MAX_VALUE};
    private static final String[] NAMES = {"kind", "much", "age", "face", "love", "purse", "health", "hunger",
        "hour", "rain", "day"};
    private static final String[] KINDS = {"news", "bill", "kiss", "anger", "invitation", "text", "joke"};
    private static final String[] SCRAPS = {";", "+", "-", "*", "/", "(", ")", "<", "=", ">", "not", "and", "or",
        "when", "opens", "gives", "tires", "on", "to", "walk", "street", "kind", "news", "0", "1", "12345", "x",
        "Day", "#", "\t", "\u00e9", "opensx", "5 5"};

    private final Check check = new Check();
    private final Random chance;
    private final int run;
    private KindPostman x = new KindPostman();
    private Model m = new Model();

    private ModelTest(int run) {
        this.run = run;
        chance = new Random(run);
    }

    public static void main(String[] args) {
        int from = args.length > 0 ? Integer.parseInt(args[0]) : 0;
        int runs = args.length > 1 ? Integer.parseInt(args[1]) : RUNS;
        for (int run = from; run < from + runs; run++) {
            ModelTest test = new ModelTest(run);
            if (!test.goes()) {
                test.check.end();
            }
        }
        System.out.println(runs + " runs as due");
    }

    /** Whether all answers of a run are as due; it stops at the first one that is not. */
    private boolean goes() {
        int doors = chance.nextInt(13);
        for (int i = 0; i < doors; i++) {
            door();
        }
        int rest = CALLS - doors;
        for (int i = 0; i < rest && !check.failed(); i++) {
            i += call();
        }
        return !check.failed();
    }

    private int in(int least, int most) {
        if (chance.nextInt(40) == 0) {
            return ODD[chance.nextInt(ODD.length)];
        }
        return least + chance.nextInt(most - least + 1);
    }

    private int doorNumber() {
        return in(0, Math.max(0, m.look(0) - 1));
    }

    private void due(String call, long got, long want) {
        check.due("run " + run + ": " + call, got, want);
    }

    private void due(String call, boolean got, boolean want) {
        check.due("run " + run + ": " + call, got, want);
    }

    private void door() {
        int face = in(-9, 9);
        int love = in(0, 9);
        int purse = in(0, chance.nextBoolean() ? 999 : 30);
        due("door", x.door(face, love, purse), m.door(face, love, purse));
    }

    /** Makes one call or more: how many more. */
    private int call() {
        switch (chance.nextInt(20)) {
            case 0: case 1: case 2: return deeds();
            case 3: case 4: case 5: return posts();
            case 6: return days();
            case 7: return tellText();
            case 8: case 9: return undoOrImage();
            case 10: case 11: return tellThought();
            case 12: case 13: return askThought();
            case 14: return askMore();
            default: return looks();
        }
    }

    private int deeds() {
        int a = in(0, 4);
        int b = doorNumber();
        switch (chance.nextInt(chance.nextInt(4) == 0 ? 5 : 3)) {
            case 0:
                int n = m.look(1) > 0 && chance.nextInt(10) > 0
                    ? m.letter(chance.nextInt(m.look(1)), 0) : in(0, 30);
                due("bring(" + n + ")", x.bring(n), m.bring(n));
                break;
            case 1:
                int many = m.look(1) > 0 ? m.letter(chance.nextInt(m.look(1)), 0) : 0;
                due("bring(" + many + ")", x.bring(many), m.bring(many));
                break;
            case 2:
                int v = in(0, chance.nextBoolean() ? 9 : 3);
                due("rain(" + v + ")", x.rain(v), m.rain(v));
                break;
            case 3:
                int w = a == 0 ? in(-9, 9) : in(0, 99);
                due("set(" + a + ", " + b + ", " + w + ")", x.set(a, b, w), m.set(a, b, w));
                break;
            default:
                int s = chance.nextInt();
                due("state(" + s + ")", x.state(s), m.state(s));
                if (chance.nextInt(4) == 0) {
                    door();
                }
        }
        return 1;
    }

    private int posts() {
        int d = doorNumber();
        int k = in(0, 6);
        int much = in(1, chance.nextBoolean() ? 99 : 20);
        due("post(" + d + ", " + k + ", " + much + ")", x.post(d, k, much), m.post(d, k, much));
        return 0;
    }

    private int days() {
        int n = chance.nextInt(4) > 0 ? in(1, 2) : in(1, 60);
        due("days(" + n + ")", x.days(n), m.days(n));
        return 0;
    }

    private int tellText() {
        int k = chance.nextInt(30) == 0 ? in(-1, 4) : chance.nextInt(4);
        StringBuilder text = new StringBuilder();
        int lines = chance.nextInt(12) == 0 ? 14 + chance.nextInt(5) : chance.nextInt(7);
        for (int i = 0; i < lines; i++) {
            String line = k == 1 ? postLine() : k == 2 ? "walk " + doorInText() + ";"
                : k == 3 ? "street " + doorInText() + " " + doorInText() + " " + (1 + chance.nextInt(99)) + ";"
                : lawLine();
            text.append(line).append(chance.nextBoolean() ? "" : chance.nextBoolean() ? " " : "\n");
        }
        if (chance.nextInt(3) == 0) {
            spoil(text);
        }
        String told = text.substring(0, Math.min(400, text.length()));
        int calls = 0;
        for (int i = 0; i < told.length(); i += 20, calls++) {
            int a = Words.four(told, i);
            int b = Words.four(told, i + 4);
            int c = Words.four(told, i + 8);
            int d = Words.four(told, i + 12);
            int e = Words.four(told, i + 16);
            due("feed", x.feed(a, b, c, d, e), m.feed(a, b, c, d, e));
        }
        int n = chance.nextInt(50) == 0 ? in(0, 400) : told.length();
        due("end", x.end(n), m.end(n));
        due("text(" + k + ") of " + told, x.text(k), m.text(k));
        due("fault(0) of " + told, x.fault(0), m.fault(0));
        due("fault(1) of " + told, x.fault(1), m.fault(1));
        return calls + 3;
    }

    private int doorInText() {
        int doors = m.look(0);
        return chance.nextInt(60) == 0 || doors == 0 ? chance.nextInt(13) : chance.nextInt(doors);
    }

    private String postLine() {
        int day = chance.nextInt(60) == 0 ? 998 + chance.nextInt(4) : m.look(8) + chance.nextInt(4);
        int much = chance.nextInt(60) == 0 ? chance.nextInt(102) : 1 + chance.nextInt(99);
        return "on " + day + " to " + doorInText() + " " + KINDS[chance.nextInt(7)] + " " + much + ";";
    }

    private String lawLine() {
        int word = chance.nextInt(3);
        StringBuilder line = new StringBuilder(word == 0 ? "opens " : word == 1 ? "gives " : "tires ");
        if (word == 0 && chance.nextBoolean()) {
            line.append(300 + chance.nextInt(500)).append("+");
        }
        sum(line, word == 0 ? 3 : 2);
        if (chance.nextInt(3) > 0) {
            line.append(" when ");
            condition(line, chance.nextInt(12) == 0 ? 9 : 2);
        }
        return line.append(";").toString();
    }

    private void sum(StringBuilder to, int most) {
        int terms = 1 + chance.nextInt(most);
        for (int i = 0; i < terms; i++) {
            to.append(i == 0 ? "" : chance.nextBoolean() ? "+" : " - ");
            unit(to);
            for (int j = chance.nextInt(3); j > 0; j--) {
                if (chance.nextInt(3) == 0) {
                    to.append("/").append(chance.nextInt(20) == 0 ? 0 : 1 + chance.nextInt(12));
                } else {
                    to.append("*");
                    unit(to);
                }
            }
        }
    }

    private void unit(StringBuilder to) {
        if (chance.nextBoolean()) {
            to.append(NAMES[chance.nextInt(NAMES.length)]);
        } else {
            to.append(chance.nextInt(8) == 0 ? chance.nextInt(9999) : chance.nextInt(10));
        }
    }

    private void condition(StringBuilder to, int depth) {
        int what = chance.nextInt(depth == 0 ? 1 : 6);
        if (depth > 2) {
            what = 2 + chance.nextInt(3);
        }
        switch (what) {
            case 2:
                to.append("not ");
                condition(to, depth - 1);
                break;
            case 3:
                to.append("(");
                condition(to, depth - 1);
                to.append(")");
                break;
            case 4: case 5:
                condition(to, depth - 1);
                to.append(chance.nextBoolean() ? " and " : " or ");
                condition(to, depth > 2 ? 0 : depth - 1);
                break;
            default:
                sum(to, 1);
                to.append("<=>".charAt(chance.nextInt(3)));
                sum(to, 1);
        }
    }

    private void spoil(StringBuilder text) {
        int at = chance.nextInt(text.length() + 1);
        switch (chance.nextInt(4)) {
            case 0:
                text.insert(at, SCRAPS[chance.nextInt(SCRAPS.length)]);
                break;
            case 1:
                text.insert(at, " " + SCRAPS[chance.nextInt(SCRAPS.length)] + " ");
                break;
            case 2:
                text.setLength(at);
                break;
            default:
                if (at < text.length()) {
                    text.deleteCharAt(at);
                }
        }
    }

    private int undoOrImage() {
        int what = chance.nextInt(6);
        if (what < 3) {
            due("undo", x.undo(), m.undo());
        } else if (what == 3) {
            boolean taken = chance.nextInt(3) > 0;
            due("image(" + taken + ")", x.image(taken), m.image(taken));
        } else {
            due("look(15)", x.look(15), m.look(15));
        }
        return 0;
    }

    private int tellThought() {
        boolean clear = chance.nextInt(12) == 0;
        switch (chance.nextInt(6)) {
            case 0:
                int v = clear ? 0 : in(-50, 50);
                due("blow(" + v + ")", x.blow(v), m.blow(v));
                break;
            case 1:
                int a = clear ? -1 : in(0, 11);
                int b = in(0, 11);
                int n = chance.nextBoolean() ? in(1, 99) : in(1, 3);
                due("owes(" + a + ", " + b + ", " + n + ")", x.owes(a, b, n), m.owes(a, b, n));
                break;
            case 2:
                int l = in(0, chance.nextInt(4) == 0 ? 25 : 4);
                int times = in(0, 9);
                due("has(" + l + ", " + times + ")", x.has(l, times), m.has(l, times));
                break;
            case 3:
                int s = clear ? -1 : in(0, chance.nextInt(9) == 0 ? 25 : 4);
                due("spell(" + s + ")", x.spell(s), m.spell(s));
                break;
            case 4:
                int k = clear ? -1 : in(0, 6);
                int by = in(0, 6);
                due("answer(" + k + ", " + by + ")", x.answer(k, by), m.answer(k, by));
                break;
            default:
                int set = chance.nextInt(5) == 0 ? -1 : in(0, 63);
                int d = in(-2, 2);
                due("face(" + set + ", " + d + ")", x.face(set, d), m.face(set, d));
        }
        return 0;
    }

    private int askThought() {
        int what = in(0, 1);
        switch (chance.nextInt(7)) {
            case 0:
                int d = doorNumber();
                due("shortest(" + d + ", " + what + ")", x.shortest(d, what), m.shortest(d, what));
                break;
            case 1:
                int h = in(1, 99);
                due("bears(" + h + ", " + what + ")", x.bears(h, what), m.bears(h, what));
                break;
            case 2:
                int w = in(1, 400);
                due("carries(" + w + ", " + what + ")", x.carries(w, what), m.carries(w, what));
                break;
            case 3:
                int door = in(-1, 11);
                due("net(" + door + ")", x.net(door), m.net(door));
                due("net(-1)", x.net(-1), m.net(-1));
                return 1;
            case 4:
                due("faces(" + what + ")", x.faces(what), m.faces(what));
                break;
            case 5:
                due("game(" + what + ")", x.game(what), m.game(what));
                break;
            default:
                int n = in(1, 60);
                int which = in(0, 3);
                due("goes(" + n + ", " + which + ")", x.goes(n, which), m.goes(n, which));
        }
        return 0;
    }

    private int askMore() {
        int what = in(0, 1);
        switch (chance.nextInt(5)) {
            case 0:
                int k = in(1, 9);
                int people = in(1, chance.nextBoolean() ? 9999 : 150);
                int n = in(0, 99);
                due("chain(" + k + ", " + people + ", " + n + ", " + what + ")",
                    x.chain(k, people, n, what), m.chain(k, people, n, what));
                break;
            case 1:
                due("lays(" + what + ")", x.lays(what), m.lays(what));
                break;
            case 2:
                int kind = in(0, 6);
                due("likely(" + kind + ", " + what + ")", x.likely(kind, what), m.likely(kind, what));
                break;
            case 3:
                due("box(" + what + ")", x.box(what), m.box(what));
                break;
            default:
                due("joy(" + what + ")", x.joy(what), m.joy(what));
        }
        return 0;
    }

    private int looks() {
        switch (chance.nextInt(6)) {
            case 0: case 1:
                int what = in(0, 15);
                due("look(" + what + ")", x.look(what), m.look(what));
                break;
            case 2:
                int d = doorNumber();
                int of = chance.nextBoolean() ? in(0, 4) : 10 + in(0, 11);
                due("of(" + d + ", " + of + ")", x.of(d, of), m.of(d, of));
                break;
            case 3:
                int i = in(0, Math.max(0, m.look(1) - 1));
                int w = in(0, 7);
                due("letter(" + i + ", " + w + ")", x.letter(i, w), m.letter(i, w));
                break;
            case 4:
                int line = in(0, Math.max(0, m.look(9) - 1));
                int col = in(0, 3);
                due("book(" + line + ", " + col + ")", x.book(line, col), m.book(line, col));
                break;
            default:
                int kind = in(0, 6);
                due("given(" + kind + ")", x.given(kind), m.given(kind));
        }
        return 0;
    }
}
