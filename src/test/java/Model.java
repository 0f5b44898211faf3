import java.util.ArrayList;
import java.util.Arrays;
import java.util.HashMap;
import java.util.List;
import java.util.Map;
import java.util.TreeMap;
import java.util.function.ToIntFunction;

/**
 * The document once more, written as plainly as can be and in another way than the class: texts are read by
 * descent into functions, what is undone is a list of whole copies, what is thought is tried out.
 * ModelTest holds the class against it.
 */
final class Model {
    static final int NONE = -1;
    private static final String[] KIND_WORDS = {"news", "bill", "kiss", "anger", "invitation", "text", "joke"};

    private static final class Door {
        int face;
        int love;
        int purse;
        int got;

        Door copy() {
            Door d = new Door();
            d.face = face;
            d.love = love;
            d.purse = purse;
            d.got = got;
            return d;
        }
    }

    private static final class Letter {
        int number;
        int door;
        int kind;
        int much;
        int age;

        Letter copy() {
            Letter l = new Letter();
            l.number = number;
            l.door = door;
            l.kind = kind;
            l.much = much;
            l.age = age;
            return l;
        }
    }

    private static final class Life {
        List<Door> doors = new ArrayList<>();
        List<Letter> bag = new ArrayList<>();
        List<int[]> book = new ArrayList<>();
        int[] given = new int[7];
        int next;
        int health = 99;
        int hunger;
        int sat;
        int lost;
        int hour;
        int rain;
        int day;
        int state;
        boolean thought;

        Life copy() {
            Life c = new Life();
            for (Door d : doors) {
                c.doors.add(d.copy());
            }
            for (Letter l : bag) {
                c.bag.add(l.copy());
            }
            c.book.addAll(book);
            c.given = given.clone();
            c.next = next;
            c.health = health;
            c.hunger = hunger;
            c.sat = sat;
            c.lost = lost;
            c.hour = hour;
            c.rain = rain;
            c.day = day;
            c.state = state;
            return c;
        }
    }

    /** What a line of THE LAW is asked about. */
    private record Asked(Life life, Letter letter) {
        int value(String name) {
            Door d = life.doors.get(letter.door);
            return switch (name) {
                case "kind" -> letter.kind;
                case "much" -> letter.much;
                case "age" -> letter.age;
                case "face" -> d.face;
                case "love" -> d.love;
                case "purse" -> d.purse;
                case "health" -> life.health;
                case "hunger" -> life.hunger;
                case "hour" -> life.hour;
                case "rain" -> life.rain;
                default -> life.day;
            };
        }
    }

    private record LawLine(String word, ToIntFunction<Asked> e, ToIntFunction<Asked> b) { }

    private static final class Fault extends Exception {
        private static final long serialVersionUID = 1L;
        final int what;
        final int place;

        Fault(int what, int place) {
            this.what = what;
            this.place = place;
        }
    }

    private record Token(String text, int place) {
        boolean isNumber() {
            return text.matches("[0-9]{1,4}");
        }
    }

    /** Reads one text by descent. */
    private static final class Reading {
        final List<Token> tokens = new ArrayList<>();
        final int doors;
        int at = 0;
        int open = 0;

        Reading(String text, int doors) {
            this.doors = doors;
            int i = 0;
            while (i < text.length()) {
                int j = i + 1;
                char c = text.charAt(i);
                if (c == ' ' || c == '\n') {
                    i++;
                    continue;
                }
                while (j < text.length() && (isLetter(c) && isLetter(text.charAt(j))
                        || isDigit(c) && isDigit(text.charAt(j)))) {
                    j++;
                }
                tokens.add(new Token(text.substring(i, j), i));
                i = j;
            }
            tokens.add(new Token("", text.length()));
        }

        static boolean isLetter(char c) {
            return c >= 'a' && c <= 'z' || c >= 'A' && c <= 'Z';
        }

        static boolean isDigit(char c) {
            return c >= '0' && c <= '9';
        }

        Token now() {
            return tokens.get(at);
        }

        boolean is(String... texts) {
            return Arrays.asList(texts).contains(now().text);
        }

        String need(String... texts) throws Fault {
            if (!is(texts)) {
                throw new Fault(1, now().place);
            }
            return tokens.get(at++).text;
        }

        int number(int least, int most) throws Fault {
            if (!now().isNumber()) {
                throw new Fault(1, now().place);
            }
            int v = Integer.parseInt(now().text);
            if (v < least || v > most) {
                throw new Fault(2, now().place);
            }
            at++;
            return v;
        }

        String lineWord(int lines, String... words) throws Fault {
            int place = now().place;
            String word = need(words);
            if (lines == 16) {
                throw new Fault(3, place);
            }
            return word;
        }

        List<LawLine> law() throws Fault {
            List<LawLine> lines = new ArrayList<>();
            while (!is("")) {
                String word = lineWord(lines.size(), "opens", "gives", "tires");
                ToIntFunction<Asked> e = e();
                ToIntFunction<Asked> b = null;
                if (is("when")) {
                    at++;
                    b = b();
                }
                need(";");
                lines.add(new LawLine(word, e, b));
            }
            return lines;
        }

        ToIntFunction<Asked> b() throws Fault {
            ToIntFunction<Asked> left = a();
            while (is("or")) {
                at++;
                ToIntFunction<Asked> l = left;
                ToIntFunction<Asked> r = a();
                left = x -> l.applyAsInt(x) != 0 || r.applyAsInt(x) != 0 ? 1 : 0;
            }
            return left;
        }

        ToIntFunction<Asked> a() throws Fault {
            ToIntFunction<Asked> left = c();
            while (is("and")) {
                at++;
                ToIntFunction<Asked> l = left;
                ToIntFunction<Asked> r = c();
                left = x -> l.applyAsInt(x) != 0 && r.applyAsInt(x) != 0 ? 1 : 0;
            }
            return left;
        }

        ToIntFunction<Asked> c() throws Fault {
            if (is("not", "(")) {
                if (open == 8) {
                    throw new Fault(3, now().place);
                }
                open++;
                boolean not = is("not");
                at++;
                ToIntFunction<Asked> inner = not ? c() : b();
                if (!not) {
                    need(")");
                }
                open--;
                return not ? x -> inner.applyAsInt(x) == 0 ? 1 : 0 : inner;
            }
            ToIntFunction<Asked> l = e();
            String sign = need("<", "=", ">");
            ToIntFunction<Asked> r = e();
            return x -> {
                int order = Integer.compare(l.applyAsInt(x), r.applyAsInt(x));
                return (sign.equals("<") ? order < 0 : sign.equals(">") ? order > 0 : order == 0) ? 1 : 0;
            };
        }

        ToIntFunction<Asked> e() throws Fault {
            ToIntFunction<Asked> left = t();
            while (is("+", "-")) {
                boolean plus = is("+");
                at++;
                ToIntFunction<Asked> l = left;
                ToIntFunction<Asked> r = t();
                left = x -> plus ? l.applyAsInt(x) + r.applyAsInt(x) : l.applyAsInt(x) - r.applyAsInt(x);
            }
            return left;
        }

        ToIntFunction<Asked> t() throws Fault {
            ToIntFunction<Asked> left = u();
            while (is("*", "/")) {
                boolean times = is("*");
                at++;
                ToIntFunction<Asked> l = left;
                if (times) {
                    ToIntFunction<Asked> r = u();
                    left = x -> l.applyAsInt(x) * r.applyAsInt(x);
                } else {
                    int part = number(1, 9999);
                    left = x -> l.applyAsInt(x) / part;
                }
            }
            return left;
        }

        ToIntFunction<Asked> u() throws Fault {
            if (now().isNumber()) {
                int v = number(0, 9999);
                return x -> v;
            }
            String name = need("kind", "much", "age", "face", "love", "purse", "health", "hunger", "hour", "rain",
                "day");
            return x -> x.value(name);
        }

        List<int[]> post() throws Fault {
            List<int[]> lines = new ArrayList<>();
            while (!is("")) {
                lineWord(lines.size(), "on");
                int day = number(0, 999);
                need("to");
                int door = number(0, doors - 1);
                int kind = Arrays.asList(KIND_WORDS).indexOf(need(KIND_WORDS));
                int much = number(1, 99);
                need(";");
                lines.add(new int[] {day, door, kind, much});
            }
            return lines;
        }

        List<Integer> round() throws Fault {
            List<Integer> lines = new ArrayList<>();
            while (!is("")) {
                lineWord(lines.size(), "walk");
                lines.add(number(0, doors - 1));
                need(";");
            }
            return lines;
        }

        List<int[]> streets() throws Fault {
            List<int[]> lines = new ArrayList<>();
            while (!is("")) {
                lineWord(lines.size(), "street");
                int a = number(0, doors - 1);
                int place = now().place;
                int b = number(0, doors - 1);
                if (a == b) {
                    throw new Fault(2, place);
                }
                int n = number(1, 99);
                need(";");
                lines.add(new int[] {a, b, n});
            }
            return lines;
        }
    }

    private static final class All {
        Life life = new Life();
        List<LawLine> law = new ArrayList<>();
        List<int[]> post = new ArrayList<>();
        List<Integer> round = new ArrayList<>();
        List<int[]> streets = new ArrayList<>();
        List<Integer> blows = new ArrayList<>();
        List<int[]> debts = new ArrayList<>();
        int[] stock = new int[26];
        List<Integer> word = new ArrayList<>();
        List<int[]> answers = new ArrayList<>();
        List<int[]> faces = new ArrayList<>();

        All copy() {
            All c = new All();
            c.life = life.copy();
            c.law = law;
            c.post = post;
            c.round = round;
            c.streets = streets;
            c.blows = new ArrayList<>(blows);
            c.debts = new ArrayList<>(debts);
            c.stock = stock.clone();
            c.word = new ArrayList<>(word);
            c.answers = new ArrayList<>(answers);
            c.faces = new ArrayList<>(faces);
            return c;
        }
    }

    private All all = new All();
    private All image = null;
    private final List<Life> past = new ArrayList<>();
    private final StringBuilder tape = new StringBuilder();
    private int faultWhat = 0;
    private int faultPlace = NONE;

    private void keep() {
        past.add(all.life.copy());
        if (past.size() > 6) {
            past.remove(0);
        }
    }

    private int law(Life life, Letter letter, String word) {
        int told = word.equals("tires") ? 1 : letter.much;
        if (word.equals("opens")) {
            told = 900 - 100 * life.rain + 20 * life.doors.get(letter.door).face;
        }
        Asked asked = new Asked(life, letter);
        for (LawLine line : all.law) {
            if (line.word.equals(word) && (line.b == null || line.b.applyAsInt(asked) != 0)) {
                told = line.e.applyAsInt(asked);
                break;
            }
        }
        int most = word.equals("opens") ? 1000 : word.equals("gives") ? 99 : 20;
        return told < 0 ? 0 : told > most ? most : told;
    }

    private int draw(Life life, int m) {
        life.state = life.state * 1664525 + 1013904223;
        return (int) (Integer.toUnsignedLong(life.state) / 256 % m);
    }

    private void note(Life life, int what, int which, int much) {
        if (life.book.size() < 150) {
            life.book.add(new int[] {life.day, what, which, much});
        }
    }

    private int arrive(Life life, int door, int kind, int much) {
        if (life.bag.size() == 24) {
            life.lost++;
            note(life, 3, NONE, door);
            return NONE;
        }
        Letter l = new Letter();
        l.number = life.next++;
        l.door = door;
        l.kind = kind;
        l.much = much;
        life.bag.add(l);
        note(life, 0, l.number, door);
        return l.number;
    }

    private int carry(Life life, Letter l) {
        int opens = law(life, l, "opens");
        boolean open = life.thought ? opens >= 500 : draw(life, 1000) < opens;
        Door door = life.doors.get(l.door);
        int gives = NONE;
        if (open) {
            gives = law(life, l, "gives");
            if (l.kind == 1) {
                gives = Math.min(gives, door.purse);
                door.purse -= gives;
            }
            life.given[l.kind] += gives;
            switch (l.kind) {
                case 0, 1 -> door.face--;
                case 2 -> door.face++;
                case 3 -> {
                    door.face--;
                    life.health = Math.max(0, life.health - gives);
                }
                case 4 -> life.hunger = Math.max(0, life.hunger - gives);
                case 6 -> door.face += 2;
                default -> { }
            }
            door.face = Math.max(-9, Math.min(9, door.face));
            if (l.kind == 0 && l.much >= 50) {
                life.sat++;
                life.health = Math.min(99, life.health + 5);
            }
            door.got++;
            life.bag.remove(l);
            note(life, 1, l.number, gives);
        } else {
            note(life, 2, l.number, l.door);
        }
        life.hour = Math.min(99, life.hour + law(life, l, "tires"));
        return gives;
    }

    private int day(Life life) {
        life.hour = 0;
        for (int[] line : all.post) {
            if (line[0] == life.day) {
                arrive(life, line[1], line[2], line[3]);
            }
        }
        int brought = 0;
        boolean[] got = new boolean[12];
        for (int door : all.round) {
            for (Letter l : new ArrayList<>(life.bag)) {
                if (l.door == door && life.hour < 24 && life.health > 0 && carry(life, l) != NONE) {
                    got[door] = true;
                    brought++;
                }
            }
        }
        for (Letter l : new ArrayList<>(life.bag)) {
            if (++l.age == 9) {
                life.bag.remove(l);
                life.lost++;
                note(life, 3, l.number, l.door);
            }
        }
        life.hunger = Math.min(99, life.hunger + 5);
        life.health = life.hunger > 50 ? Math.max(0, life.health - 5) : Math.min(99, life.health + 3);
        for (int d = 0; d < life.doors.size(); d++) {
            Door door = life.doors.get(d);
            if (!got[d] && door.face != 0) {
                door.face += door.face > 0 ? -1 : 1;
            }
        }
        life.day++;
        return brought;
    }

    private boolean isDoor(int d) {
        return d >= 0 && d < all.life.doors.size();
    }

    int state(int v) {
        int was = all.life.state;
        all.life.state = v;
        past.clear();
        return was;
    }

    int door(int face, int love, int purse) {
        if (face < -9 || face > 9 || love < 0 || love > 9 || purse < 0 || purse > 999
                || all.life.doors.size() == 12) {
            return NONE;
        }
        Door d = new Door();
        d.face = face;
        d.love = love;
        d.purse = purse;
        all.life.doors.add(d);
        past.clear();
        return all.life.doors.size() - 1;
    }

    boolean set(int what, int who, int v) {
        if (what < 0 || what > 4 || what < 3 && !isDoor(who)) {
            return false;
        }
        int least = what == 0 ? -9 : 0;
        int most = new int[] {9, 9, 999, 99, 99}[what];
        if (v < least || v > most) {
            return false;
        }
        switch (what) {
            case 0 -> all.life.doors.get(who).face = v;
            case 1 -> all.life.doors.get(who).love = v;
            case 2 -> all.life.doors.get(who).purse = v;
            case 3 -> all.life.health = v;
            default -> all.life.hunger = v;
        }
        past.clear();
        return true;
    }

    int post(int door, int kind, int much) {
        if (!isDoor(door) || kind < 0 || kind > 6 || much < 1 || much > 99 || all.life.bag.size() == 24) {
            return NONE;
        }
        keep();
        return arrive(all.life, door, kind, much);
    }

    int bring(int letter) {
        for (Letter l : all.life.bag) {
            if (l.number == letter && all.life.health > 0) {
                keep();
                return carry(all.life, l);
            }
        }
        return NONE - 1;
    }

    boolean rain(int v) {
        if (v < 0 || v > 9) {
            return false;
        }
        keep();
        all.life.rain = v;
        return true;
    }

    int days(int n) {
        if (n < 1 || n > 60 || all.life.day + n > 9999) {
            return NONE;
        }
        int brought = 0;
        for (int i = 0; i < n; i++) {
            keep();
            brought += day(all.life);
        }
        return brought;
    }

    int feed(int a, int b, int c, int d, int e) {
        if (tape.length() > 380) {
            return NONE;
        }
        for (int v : new int[] {a, b, c, d, e}) {
            tape.append((char) (v >> 24 & 255)).append((char) (v >> 16 & 255));
            tape.append((char) (v >> 8 & 255)).append((char) (v & 255));
        }
        return tape.length();
    }

    boolean end(int n) {
        if (n < 0 || n > tape.length()) {
            return false;
        }
        tape.setLength(n);
        return true;
    }

    int text(int k) {
        String text = tape.toString();
        tape.setLength(0);
        faultWhat = 0;
        faultPlace = NONE;
        Reading reading = new Reading(text, all.life.doors.size());
        try {
            switch (k) {
                case 0 -> {
                    all.law = reading.law();
                    return all.law.size();
                }
                case 1 -> {
                    all.post = reading.post();
                    past.clear();
                    return all.post.size();
                }
                case 2 -> {
                    all.round = reading.round();
                    past.clear();
                    return all.round.size();
                }
                case 3 -> {
                    all.streets = reading.streets();
                    return all.streets.size();
                }
                default -> {
                    return NONE;
                }
            }
        } catch (Fault f) {
            faultWhat = f.what;
            faultPlace = f.place;
            return NONE;
        }
    }

    int fault(int what) {
        return what == 0 ? faultWhat : what == 1 ? faultPlace : NONE;
    }

    private int street(int a, int b) {
        int shortest = NONE;
        for (int[] s : all.streets) {
            boolean between = s[0] == a && s[1] == b || s[0] == b && s[1] == a;
            if (between && (shortest == NONE || s[2] < shortest)) {
                shortest = s[2];
            }
        }
        return shortest;
    }

    private int inBag(int door) {
        return (int) all.life.bag.stream().filter(l -> l.door == door).count();
    }

    int of(int door, int what) {
        if (!isDoor(door)) {
            return -100;
        }
        Door d = all.life.doors.get(door);
        return switch (what) {
            case 0 -> d.face;
            case 1 -> d.love;
            case 2 -> d.purse;
            case 3 -> d.got;
            case 4 -> inBag(door);
            default -> what >= 10 && isDoor(what - 10) ? street(door, what - 10) : -100;
        };
    }

    int letter(int i, int what) {
        if (i < 0 || i >= all.life.bag.size()) {
            return NONE;
        }
        Letter l = all.life.bag.get(i);
        return switch (what) {
            case 0 -> l.number;
            case 1 -> l.door;
            case 2 -> l.kind;
            case 3 -> l.much;
            case 4 -> l.age;
            case 5 -> law(all.life, l, "opens");
            case 6 -> law(all.life, l, "gives");
            case 7 -> law(all.life, l, "tires");
            default -> NONE;
        };
    }

    int given(int kind) {
        return kind < 0 || kind > 6 ? NONE : all.life.given[kind];
    }

    int book(int i, int what) {
        return i < 0 || i >= all.life.book.size() || what < 0 || what > 3 ? -2 : all.life.book.get(i)[what];
    }

    int goes(int n, int what) {
        if (n < 1 || n > 60 || what < 0 || what > 3) {
            return NONE;
        }
        Life life = all.life.copy();
        life.thought = true;
        for (int i = 0; i < n; i++) {
            day(life);
        }
        return new int[] {life.health, life.hunger, life.bag.size(), life.lost}[what];
    }

    /** How far from a to b by walks of ever more streets; NONE if it can't be. */
    private int way(int a, int b) {
        Map<Integer, Integer> far = new TreeMap<>();
        far.put(a, 0);
        for (int i = 0; i < 12; i++) {
            for (int[] s : all.streets) {
                for (int turn = 0; turn < 2; turn++) {
                    Integer from = far.get(s[turn]);
                    if (from != null) {
                        far.merge(s[1 - turn], from + s[2], Math::min);
                    }
                }
            }
        }
        return far.getOrDefault(b, NONE);
    }

    int shortest(int a, int what) {
        if (!isDoor(a) || what < 0 || what > 1) {
            return NONE;
        }
        List<Integer> goals = new ArrayList<>();
        for (int d = 0; d < all.life.doors.size(); d++) {
            if (d != a && inBag(d) > 0) {
                goals.add(d);
            }
        }
        if (goals.size() > 8) {
            return NONE;
        }
        int[][] far = new int[12][12];
        for (int i : goals) {
            far[a][i] = way(a, i);
            for (int j : goals) {
                far[i][j] = way(i, j);
            }
        }
        int[] best = {Integer.MAX_VALUE, NONE};
        tryWalks(a, 0, goals, far, best);
        return best[1] == NONE ? NONE : best[what];
    }

    private void tryWalks(int at, int length, List<Integer> goals, int[][] far, int[] best) {
        if (goals.isEmpty() && (length < best[0] || length == best[0] && at < best[1])) {
            best[0] = length;
            best[1] = at;
        }
        for (int i = 0; i < goals.size(); i++) {
            int next = goals.get(i);
            if (far[at][next] != NONE && length + far[at][next] <= best[0]) {
                List<Integer> rest = new ArrayList<>(goals);
                rest.remove(i);
                tryWalks(next, length + far[at][next], rest, far, best);
            }
        }
    }

    int blow(int v) {
        if (v == 0) {
            all.blows.clear();
            return 0;
        }
        if (v < -50 || v > 50 || all.blows.size() == 8) {
            return NONE;
        }
        all.blows.add(v);
        return all.blows.size();
    }

    int bears(int health, int what) {
        if (health < 1 || health > 99 || what < 0 || what > 1) {
            return NONE;
        }
        int[] best = {NONE, NONE};
        tryBlows(health, NONE, 0, best);
        return best[what];
    }

    private void tryBlows(int health, int first, int done, int[] best) {
        if (done == (1 << all.blows.size()) - 1) {
            best[0] = best[0] == NONE ? first : Math.min(best[0], first);
            best[1] = Math.max(best[1], health);
        }
        for (int i = 0; i < all.blows.size(); i++) {
            int left = Math.min(99, health + all.blows.get(i));
            if ((done >> i & 1) == 0 && left >= 1) {
                tryBlows(left, first == NONE ? i : first, done | 1 << i, best);
            }
        }
    }

    int carries(int w, int what) {
        if (w < 1 || w > 400 || what < 0 || what > 1) {
            return NONE;
        }
        Map<Integer, Map<Integer, Long>> ways = new TreeMap<>();
        ways.computeIfAbsent(0, n -> new HashMap<>()).put(0, 1L);
        for (Letter l : all.life.bag) {
            Map<Integer, Map<Integer, Long>> more = new TreeMap<>();
            ways.forEach((n, m) -> m.forEach((weight, times) -> {
                more.computeIfAbsent(n, x -> new HashMap<>()).merge(weight, times, Long::sum);
                if (weight + l.much <= w) {
                    more.computeIfAbsent(n + 1, x -> new HashMap<>()).merge(weight + l.much, times, Long::sum);
                }
            }));
            ways = more;
        }
        int most = 0;
        long times = 0;
        for (Map.Entry<Integer, Map<Integer, Long>> e : ways.entrySet()) {
            most = e.getKey();
            times = e.getValue().values().stream().mapToLong(Long::longValue).sum();
        }
        return what == 0 ? most : (int) (times % 1000000007L);
    }

    int owes(int a, int b, int n) {
        if (a == NONE) {
            all.debts.clear();
            return 0;
        }
        if (a < 0 || a > 11 || b < 0 || b > 11 || a == b || n < 1 || n > 99 || all.debts.size() == 16) {
            return NONE;
        }
        all.debts.add(new int[] {a, b, n});
        return all.debts.size();
    }

    int net(int door) {
        if (door < -1 || door > 11) {
            return -10000;
        }
        int[] nets = new int[12];
        for (int[] d : all.debts) {
            nets[d[0]] -= d[2];
            nets[d[1]] += d[2];
        }
        if (door >= 0) {
            return nets[door];
        }
        int[] open = Arrays.stream(nets).filter(v -> v != 0).toArray();
        return open.length - groups(open, (1 << open.length) - 1);
    }

    /** Into how many groups that sum up to 0 the set can be parted at most. */
    private int groups(int[] nets, int set) {
        if (set == 0) {
            return 0;
        }
        int lowest = Integer.lowestOneBit(set);
        int rest = set ^ lowest;
        int most = 0;
        for (int sub = rest; ; sub = sub - 1 & rest) {
            int sum = 0;
            for (int i = 0; i < nets.length; i++) {
                sum += ((sub | lowest) >> i & 1) * nets[i];
            }
            if (sum == 0) {
                most = Math.max(most, 1 + groups(nets, set ^ sub ^ lowest));
            }
            if (sub == 0) {
                return most;
            }
        }
    }

    int chain(int k, int m, int n, int what) {
        if (k < 1 || k > 9 || m < 1 || m > 9999 || what < 0 || what > 1 || what == 0 && (n < 0 || n > 99)) {
            return NONE;
        }
        long had = 1;
        long power = 1;
        for (int day = 0; day <= 99; day++) {
            long by = Math.min(had, m);
            if (what == 0 && day == n) {
                return (int) by;
            }
            if (what == 1 && by == m) {
                return day;
            }
            power = Math.min(power * k, 1000000L);
            had = Math.min(had + power, 1000000L);
        }
        return NONE;
    }

    boolean has(int letter, int v) {
        if (letter < 0 || letter > 25 || v < 0 || v > 9) {
            return false;
        }
        all.stock[letter] = v;
        return true;
    }

    int spell(int letter) {
        if (letter == NONE) {
            all.word.clear();
            return 0;
        }
        if (letter < 0 || letter > 25 || all.word.size() == 8) {
            return NONE;
        }
        all.word.add(letter);
        return all.word.size();
    }

    int lays(int what) {
        if (what == 1) {
            long orders = 1;
            for (int i = 1; i <= all.word.size(); i++) {
                orders *= i;
            }
            for (int letter = 0; letter < 26; letter++) {
                int l = letter;
                long alike = all.word.stream().filter(x -> x == l).count();
                for (int i = 1; i <= alike; i++) {
                    orders /= i;
                }
            }
            return (int) orders;
        }
        if (what != 0) {
            return NONE;
        }
        if (all.word.isEmpty()) {
            return 0;
        }
        int[] left = all.stock.clone();
        for (int times = 0; ; times++) {
            for (int letter : all.word) {
                if (left[letter]-- == 0) {
                    return times;
                }
            }
        }
    }

    int answer(int a, int b) {
        if (a == NONE) {
            all.answers.clear();
            return 0;
        }
        if (a < 0 || a > 6 || b < 0 || b > 6 || all.answers.size() == 12) {
            return NONE;
        }
        all.answers.add(new int[] {a, b});
        return all.answers.size();
    }

    int likely(int kind, int what) {
        if (kind < 0 || kind > 6 || what < 0 || what > 1) {
            return NONE;
        }
        if (what == 0) {
            int[] times = new int[7];
            all.answers.stream().filter(x -> x[0] == kind).forEach(x -> times[x[1]]++);
            int most = Arrays.stream(times).max().getAsInt();
            for (int b = 0; b < 7 && most > 0; b++) {
                if (times[b] == most) {
                    return b;
                }
            }
            return NONE;
        }
        List<Integer> there = new ArrayList<>(List.of(kind));
        while (true) {
            int next = likely(there.get(there.size() - 1), 0);
            if (next == NONE) {
                return there.size() == 1 ? 0 : NONE;
            }
            if (there.contains(next)) {
                return there.size();
            }
            there.add(next);
        }
    }

    int box(int what) {
        int n = all.life.doors.size();
        if (what < 0 || what > 1) {
            return NONE;
        }
        int best = Integer.MAX_VALUE;
        int at = NONE;
        for (int a = 0; a < n; a++) {
            int farthest = 0;
            for (int b = 0; b < n; b++) {
                int way = way(a, b);
                if (way == NONE) {
                    return NONE;
                }
                farthest = Math.max(farthest, way);
            }
            if (farthest < best) {
                best = farthest;
                at = a;
            }
        }
        return at == NONE ? NONE : what == 0 ? at : best;
    }

    int face(int letters, int d) {
        if (letters == NONE) {
            all.faces.clear();
            return 0;
        }
        if (letters < 0 || letters > 63 || d < -2 || d > 2 || all.faces.size() == 8) {
            return NONE;
        }
        all.faces.add(new int[] {letters, d});
        return all.faces.size();
    }

    int faces(int what) {
        if (what < 0 || what > 1) {
            return NONE;
        }
        int[] changes = {-1, -1, 1, -1, 0, 0, 2};
        int ways = 0;
        int[] seen = new int[6];
        int[] change = new int[6];
        for (int all7 = 0; all7 < 117649; all7++) {
            for (int i = 0, left = all7; i < 6; i++, left /= 7) {
                change[i] = changes[left % 7];
            }
            boolean allowed = true;
            for (int[] told : all.faces) {
                int sum = 0;
                for (int i = 0; i < 6; i++) {
                    sum += (told[0] >> i & 1) == 1 ? change[i] : 0;
                }
                allowed &= sum == told[1];
            }
            if (allowed) {
                ways++;
                for (int i = 0; i < 6; i++) {
                    seen[i] |= 1 << change[i] + 1;
                }
            }
        }
        int sure = 0;
        for (int i = 0; i < 6; i++) {
            sure |= Integer.bitCount(seen[i]) == 1 ? 1 << i : 0;
        }
        return what == 0 ? ways : sure;
    }

    int joy(int what) {
        int n = all.life.doors.size();
        if (n == 0 || what < 0 || what > 1) {
            return -100;
        }
        int[] best = {Integer.MIN_VALUE, 0};
        for (int begin = 0; begin < n; begin++) {
            for (int end = begin + 1; end <= n; end++) {
                int sum = all.life.doors.subList(begin, end).stream().mapToInt(d -> d.face).sum();
                if (sum > best[0]) {
                    best = new int[] {sum, begin};
                }
            }
        }
        return best[what];
    }

    int game(int what) {
        if (what < 0 || what > 1) {
            return NONE;
        }
        int[] piles = new int[12];
        all.life.bag.forEach(l -> piles[l.door]++);
        Map<String, Boolean> known = new HashMap<>();
        for (int d = 0; d < 12; d++) {
            for (int n = 1; n <= Math.min(2, piles[d]); n++) {
                piles[d] -= n;
                boolean wins = !wins(piles, known);
                piles[d] += n;
                if (wins) {
                    return what == 0 ? d : n;
                }
            }
        }
        return NONE;
    }

    private static boolean wins(int[] piles, Map<String, Boolean> known) {
        int[] sorted = piles.clone();
        Arrays.sort(sorted);
        String key = Arrays.toString(sorted);
        Boolean before = known.get(key);
        if (before != null) {
            return before;
        }
        boolean wins = false;
        for (int d = 0; d < 12 && !wins; d++) {
            for (int n = 1; n <= Math.min(2, sorted[d]) && !wins; n++) {
                sorted[d] -= n;
                wins = !wins(sorted, known);
                sorted[d] += n;
            }
        }
        known.put(key, wins);
        return wins;
    }

    boolean undo() {
        if (past.isEmpty()) {
            return false;
        }
        all.life = past.remove(past.size() - 1);
        return true;
    }

    boolean image(boolean taken) {
        if (taken) {
            image = all.copy();
            return true;
        }
        if (image == null) {
            return false;
        }
        all = image.copy();
        past.clear();
        return true;
    }

    int look(int what) {
        Life l = all.life;
        int[] looks = {l.doors.size(), l.bag.size(), l.health, l.hunger, l.sat, l.lost, l.hour, l.rain, l.day,
            l.book.size(), l.state, all.law.size(), all.post.size(), all.round.size(), all.streets.size(),
            past.size()};
        return what < 0 || what > 15 ? NONE : looks[what];
    }
}
