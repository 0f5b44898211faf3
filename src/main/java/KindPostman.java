import java.util.Arrays;

/**
 * A postman who is paid on arrival in kind. The numbered promises of DOC.md say what each call answers;
 * the words of its Terms (DOOR, LETTER, THE BAG, THE LAW ..) are used here as they stand there.
 *
 * All rows are made in constructors, but for one large one that is made once, and used again: a run lives in one
 * room, in which nothing is ever given back.
 */
public final class KindPostman {
    public static final int NONE = -1;

    private static final int KINDS = 7;
    private static final int NEWS = 0;
    private static final int BILL = 1;
    private static final int ANGER = 3;
    private static final int INVITATION = 4;
    /** By how much a DOOR's FACE changes by KIND. */
    private static final int[] SMILES = {-1, -1, 1, -1, 0, 0, 2};

    private static final int MOST_DOORS = 12;
    private static final int MOST_LETTERS = 24;
    private static final int MOST_LINES = 16;
    private static final int MOST_BYTES = 400;
    private static final int FED_BYTES = 20;
    private static final int MOST_DAYS = 60;
    private static final int LAST_DAY = 9999;
    private static final int MOST_FACE = 9;
    private static final int MOST_LOVE = 9;
    private static final int MOST_PURSE = 999;
    private static final int MOST_MUCH = 99;
    private static final int MOST_RAIN = 9;
    /** The most of HEALTH, HUNGER and HOUR. */
    private static final int FULL = 99;

    private static final int TEXTS = 4;
    private static final int LAW = 0;
    private static final int POST = 1;
    private static final int ROUND = 2;
    private static final int STREETS = 3;

    /** What the dearest of those that use the desk needs: CARRIES. */
    private static final int DESK = (MOST_LETTERS + 1) * Ways.ROW;

    private final World world = new World(false, true);
    private final World thought = new World(true, false);
    private final Past past = new Past();
    private final Texts texts = new Texts();
    private final Told told = new Told();
    private final Reader reader = new Reader();
    private final Mind mind = new Mind();
    private final Ways ways = new Ways();
    /** Made when something large is first thought, so that an object of which nothing such is asked stays small. */
    private int[] desk = new int[0];
    private final byte[] tape = new byte[MOST_BYTES];
    private int tapeLength;
    private final World worldThen = new World(false, true);
    private final Texts textsThen = new Texts();
    private final Told toldThen = new Told();
    private boolean imageTaken;

    public KindPostman() {
    }

    public int state(int v) {
        int before = world.draws;
        world.draws = v;
        past.forget();
        return before;
    }

    public int door(int face, int love, int purse) {
        boolean can = isFace(face) && isWithin(love, 0, MOST_LOVE) && isWithin(purse, 0, MOST_PURSE);
        if (!can || world.doors.count >= MOST_DOORS) {
            return NONE;
        }
        past.forget();
        return world.doors.add(face, love, purse);
    }

    public boolean set(int what, int who, int v) {
        boolean can = what == 3 || what == 4 ? setPostman(what, v) : setDoor(what, who, v);
        if (can) {
            past.forget();
        }
        return can;
    }

    public int post(int door, int kind, int much) {
        boolean can = isDoor(door) && isKind(kind) && isWithin(much, 1, MOST_MUCH);
        if (!can || world.bag.size >= MOST_LETTERS) {
            return NONE;
        }
        past.keep(world);
        return world.arrive(door, kind, much);
    }

    public int bring(int letter) {
        int i = world.bag.placeOf(letter);
        if (i == NONE || world.health == 0) {
            return NONE - 1;
        }
        past.keep(world);
        return world.bringAt(i, texts.law);
    }

    public boolean rain(int v) {
        if (!isWithin(v, 0, MOST_RAIN)) {
            return false;
        }
        past.keep(world);
        world.rain = v;
        return true;
    }

    public int days(int n) {
        if (!isWithin(n, 1, MOST_DAYS) || world.day + n > LAST_DAY) {
            return NONE;
        }
        int brought = 0;
        for (int i = 0; i < n; i++) {
            past.keep(world);
            brought += world.passDay(texts);
        }
        return brought;
    }

    public int feed(int a, int b, int c, int d, int e) {
        if (tapeLength + FED_BYTES > MOST_BYTES) {
            return NONE;
        }
        feedOne(a);
        feedOne(b);
        feedOne(c);
        feedOne(d);
        feedOne(e);
        return tapeLength;
    }

    public boolean end(int n) {
        if (!isWithin(n, 0, tapeLength)) {
            return false;
        }
        tapeLength = n;
        return true;
    }

    public int text(int k) {
        int length = tapeLength;
        tapeLength = 0;
        reader.forgive();
        if (!isWithin(k, 0, TEXTS - 1) || !reader.read(k, tape, length, world.doors.count)) {
            return NONE;
        }
        texts.copyOne(k, reader.draft);
        if (k == POST || k == ROUND) {
            past.forget();
        }
        return texts.linesOf(k);
    }

    public int fault(int what) {
        if (what == 0) {
            return reader.fault;
        }
        return what == 1 ? reader.place : NONE;
    }

    public int of(int door, int what) {
        if (!isDoor(door)) {
            return NONE - 99;
        }
        switch (what) {
            case 0: return world.doors.face[door];
            case 1: return world.doors.love[door];
            case 2: return world.doors.purse[door];
            case 3: return world.doors.got[door];
            case 4: return world.bag.countFor(door);
            default: return what >= 10 && isDoor(what - 10) ? texts.streetBetween(door, what - 10) : NONE - 99;
        }
    }

    public int letter(int i, int what) {
        Bag bag = world.bag;
        if (!isWithin(i, 0, bag.size - 1)) {
            return NONE;
        }
        switch (what) {
            case 0: return bag.number[i];
            case 1: return bag.door[i];
            case 2: return bag.kind[i];
            case 3: return bag.much[i];
            case 4: return bag.age[i];
            case 5: return world.ask(Law.OPENS, i, texts.law);
            case 6: return world.ask(Law.GIVES, i, texts.law);
            case 7: return world.ask(Law.TIRES, i, texts.law);
            default: return NONE;
        }
    }

    public int given(int kind) {
        return isKind(kind) ? world.gifts[kind] : NONE;
    }

    public int book(int i, int what) {
        if (!isWithin(i, 0, world.written - 1) || !isWithin(what, 0, World.BOOK_ROW - 1)) {
            return NONE - 1;
        }
        return world.bookRows[i * World.BOOK_ROW + what];
    }

    public int goes(int n, int what) {
        if (!isWithin(n, 1, MOST_DAYS) || !isWithin(what, 0, 3)) {
            return NONE;
        }
        thought.copyFrom(world);
        for (int i = 0; i < n; i++) {
            thought.passDay(texts);
        }
        switch (what) {
            case 0: return thought.health;
            case 1: return thought.hunger;
            case 2: return thought.bag.size;
            default: return thought.lost;
        }
    }

    public int shortest(int a, int what) {
        if (!isDoor(a) || !isWithin(what, 0, 1)) {
            return NONE;
        }
        return ways.walkAll(a, what == 1, world, texts, theDesk());
    }

    public int blow(int v) {
        return told.addBlow(v);
    }

    public int bears(int health, int what) {
        if (!isWithin(health, 1, FULL) || !isWithin(what, 0, 1)) {
            return NONE;
        }
        return what == 0 ? mind.firstBlow(told, health) : mind.healthLeft(told, health);
    }

    public int carries(int w, int what) {
        if (!isWithin(w, 1, Ways.MOST_WEIGHT) || !isWithin(what, 0, 1)) {
            return NONE;
        }
        return ways.loads(w, what == 1, world.bag, theDesk());
    }

    public int owes(int a, int b, int n) {
        return told.addDebt(a, b, n);
    }

    public int net(int door) {
        if (door == NONE) {
            return mind.fewestPayments(told, theDesk());
        }
        return isWithin(door, 0, MOST_DOORS - 1) ? told.nets[door] : NONE - 9999;
    }

    public int chain(int k, int m, int n, int what) {
        if (!isWithin(k, 1, 9) || !isWithin(m, 1, 9999)) {
            return NONE;
        }
        if (what == 0) {
            return isWithin(n, 0, Mind.LAST_CHAIN_DAY) ? mind.chainHad(k, m, n) : NONE;
        }
        return what == 1 ? mind.chainFull(k, m) : NONE;
    }

    public boolean has(int letter, int v) {
        if (!isWithin(letter, 0, Told.ALPHABET - 1) || !isWithin(v, 0, Told.MOST_STOCK)) {
            return false;
        }
        told.stock[letter] = v;
        return true;
    }

    public int spell(int letter) {
        return told.addSpelled(letter);
    }

    public int lays(int what) {
        if (what == 0) {
            return mind.timesLaid(told);
        }
        return what == 1 ? mind.orders(told) : NONE;
    }

    public int answer(int a, int b) {
        return told.addAnswer(a, b);
    }

    public int likely(int kind, int what) {
        if (!isKind(kind) || !isWithin(what, 0, 1)) {
            return NONE;
        }
        return what == 0 ? mind.likelyAnswer(told, kind) : mind.follows(told, kind);
    }

    public int box(int what) {
        if (world.doors.count == 0 || !isWithin(what, 0, 1)) {
            return NONE;
        }
        return ways.newBox(what == 1, world.doors.count, texts);
    }

    public int face(int letters, int d) {
        return told.addChange(letters, d);
    }

    public int faces(int what) {
        if (what == 0) {
            return mind.waysOfFaces(told);
        }
        return what == 1 ? mind.sureLetters(told) : NONE;
    }

    public int joy(int what) {
        if (world.doors.count == 0 || !isWithin(what, 0, 1)) {
            return NONE - 99;
        }
        return ways.joyOfRow(what == 1, world.doors);
    }

    public int game(int what) {
        return isWithin(what, 0, 1) ? ways.goodMove(what == 1, world) : NONE;
    }

    public boolean undo() {
        return past.goBack(world);
    }

    public boolean image(boolean taken) {
        if (taken) {
            worldThen.copyFrom(world);
            textsThen.copyFrom(texts);
            toldThen.copyFrom(told);
            imageTaken = true;
        } else if (imageTaken) {
            world.copyFrom(worldThen);
            texts.copyFrom(textsThen);
            told.copyFrom(toldThen);
            past.forget();
        }
        return imageTaken;
    }

    public int look(int what) {
        switch (what) {
            case 0: return world.doors.count;
            case 1: return world.bag.size;
            case 2: return world.health;
            case 3: return world.hunger;
            case 4: return world.sat;
            case 5: return world.lost;
            case 6: return world.hour;
            case 7: return world.rain;
            case 8: return world.day;
            case 9: return world.written;
            case 10: return world.draws;
            case 11: return texts.linesOf(LAW);
            case 12: return texts.linesOf(POST);
            case 13: return texts.linesOf(ROUND);
            case 14: return texts.linesOf(STREETS);
            case 15: return past.count;
            default: return NONE;
        }
    }

    private static boolean isWithin(int v, int least, int most) {
        return v >= least && v <= most;
    }

    private static int held(int v, int least, int most) {
        return Math.max(least, Math.min(most, v));
    }

    private static boolean isKind(int kind) {
        return isWithin(kind, 0, KINDS - 1);
    }

    private static boolean isFace(int face) {
        return isWithin(face, -MOST_FACE, MOST_FACE);
    }

    private int[] theDesk() {
        if (desk.length == 0) {
            desk = new int[DESK];
        }
        return desk;
    }

    private boolean isDoor(int door) {
        return isWithin(door, 0, world.doors.count - 1);
    }

    private boolean setPostman(int what, int v) {
        if (!isWithin(v, 0, FULL)) {
            return false;
        }
        if (what == 3) {
            world.health = v;
        } else {
            world.hunger = v;
        }
        return true;
    }

    private boolean setDoor(int what, int who, int v) {
        if (!isDoor(who)) {
            return false;
        }
        if (what == 0 && isFace(v)) {
            world.doors.face[who] = v;
            return true;
        }
        if (what == 1 && isWithin(v, 0, MOST_LOVE)) {
            world.doors.love[who] = v;
            return true;
        }
        if (what == 2 && isWithin(v, 0, MOST_PURSE)) {
            world.doors.purse[who] = v;
            return true;
        }
        return false;
    }

    private void feedOne(int bytes) {
        for (int shift = 24; shift >= 0 && tapeLength < MOST_BYTES; shift -= 8) {
            tape[tapeLength] = (byte) (bytes >>> shift);
            tapeLength++;
        }
    }

    /** DOORS by number. */
    private static final class Doors {
        int count;
        final int[] face = new int[MOST_DOORS];
        final int[] love = new int[MOST_DOORS];
        final int[] purse = new int[MOST_DOORS];
        final int[] got = new int[MOST_DOORS];
        /** GOT as it was when the round began: it tells which DOORS got none on it. */
        final int[] gotBefore = new int[MOST_DOORS];

        int add(int newFace, int newLove, int newPurse) {
            if (count >= MOST_DOORS) {
                return NONE;
            }
            face[count] = newFace;
            love[count] = newLove;
            purse[count] = newPurse;
            got[count] = 0;
            count++;
            return count - 1;
        }

        void beginRound() {
            System.arraycopy(got, 0, gotBefore, 0, MOST_DOORS);
        }

        void calmTheUnvisited() {
            for (int d = 0; d < count; d++) {
                if (got[d] == gotBefore[d]) {
                    face[d] += face[d] > 0 ? -1 : face[d] < 0 ? 1 : 0;
                }
            }
        }

        void copyFrom(Doors from) {
            count = from.count;
            System.arraycopy(from.face, 0, face, 0, MOST_DOORS);
            System.arraycopy(from.love, 0, love, 0, MOST_DOORS);
            System.arraycopy(from.purse, 0, purse, 0, MOST_DOORS);
            System.arraycopy(from.got, 0, got, 0, MOST_DOORS);
        }
    }

    /** THE BAG: LETTERS in the order of their numbers. */
    private static final class Bag {
        int size;
        int nextNumber;
        final int[] number = new int[MOST_LETTERS];
        final int[] door = new int[MOST_LETTERS];
        final int[] kind = new int[MOST_LETTERS];
        final int[] much = new int[MOST_LETTERS];
        final int[] age = new int[MOST_LETTERS];

        /** Puts a LETTER in, if there is room: its number. */
        int add(int newDoor, int newKind, int newMuch) {
            if (size >= MOST_LETTERS) {
                return NONE;
            }
            number[size] = nextNumber;
            door[size] = newDoor;
            kind[size] = newKind;
            much[size] = newMuch;
            age[size] = 0;
            size++;
            nextNumber++;
            return nextNumber - 1;
        }

        void remove(int i) {
            int behind = size - i - 1;
            if (i < 0 || behind < 0) {
                return;
            }
            System.arraycopy(number, i + 1, number, i, behind);
            System.arraycopy(door, i + 1, door, i, behind);
            System.arraycopy(kind, i + 1, kind, i, behind);
            System.arraycopy(much, i + 1, much, i, behind);
            System.arraycopy(age, i + 1, age, i, behind);
            size--;
        }

        int placeOf(int letterNumber) {
            for (int i = 0; i < size; i++) {
                if (number[i] == letterNumber) {
                    return i;
                }
            }
            return NONE;
        }

        int countFor(int someDoor) {
            int letters = 0;
            for (int i = 0; i < size; i++) {
                if (door[i] == someDoor) {
                    letters++;
                }
            }
            return letters;
        }

        void copyFrom(Bag from) {
            size = from.size;
            nextNumber = from.nextNumber;
            System.arraycopy(from.number, 0, number, 0, MOST_LETTERS);
            System.arraycopy(from.door, 0, door, 0, MOST_LETTERS);
            System.arraycopy(from.kind, 0, kind, 0, MOST_LETTERS);
            System.arraycopy(from.much, 0, much, 0, MOST_LETTERS);
            System.arraycopy(from.age, 0, age, 0, MOST_LETTERS);
        }
    }

    /** All that days, postings, bringings and rain change, and by which rules they do. */
    private static final class World {
        static final int BOOK_ROW = 4;
        private static final int MOST_BOOKED = 150;
        private static final int POSTED = 0;
        private static final int BROUGHT = 1;
        private static final int NOT_OPENED = 2;
        private static final int LOST = 3;
        private static final int DUSK = 24;
        private static final int OLDEST = 9;
        private static final int SAD = 50;

        final Doors doors = new Doors();
        final Bag bag = new Bag();
        final int[] gifts = new int[KINDS];
        /** Lines are only ever put behind, so one that is kept for undo needs their number alone. */
        final int[] bookRows;
        int written;
        int health = FULL;
        int hunger;
        int sat;
        int lost;
        int hour;
        int rain;
        int day;
        int draws;
        private final boolean inThought;

        World(boolean inThought, boolean booked) {
            this.inThought = inThought;
            bookRows = new int[booked ? MOST_BOOKED * BOOK_ROW : 0];
        }

        /** A LETTER comes: its number, or NONE where there is no room for it. */
        int arrive(int door, int kind, int much) {
            int letter = bag.add(door, kind, much);
            if (letter == NONE) {
                lost++;
            }
            write(letter == NONE ? LOST : POSTED, letter, door);
            return letter;
        }

        /** BRINGS the LETTER at place i of THE BAG: what was given, NONE if it was not opened. */
        int bringAt(int i, Law law) {
            boolean opened = isOpened(ask(Law.OPENS, i, law));
            int much = NONE;
            if (opened) {
                much = take(i, ask(Law.GIVES, i, law));
                feel(i, much);
            }
            hour = Math.min(FULL, hour + ask(Law.TIRES, i, law));
            write(opened ? BROUGHT : NOT_OPENED, bag.number[i], opened ? much : bag.door[i]);
            if (opened) {
                bag.remove(i);
            }
            return much;
        }

        /** What THE LAW tells for a word of the LETTER at place i of THE BAG. */
        int ask(int word, int i, Law law) {
            int[] known = law.known;
            int door = bag.door[i];
            known[Law.KIND] = bag.kind[i];
            known[Law.MUCH] = bag.much[i];
            known[Law.AGE] = bag.age[i];
            known[Law.FACE] = doors.face[door];
            known[Law.LOVE] = doors.love[door];
            known[Law.PURSE] = doors.purse[door];
            known[Law.HEALTH] = health;
            known[Law.HUNGER] = hunger;
            known[Law.HOUR] = hour;
            known[Law.RAIN] = rain;
            known[Law.DAY] = day;
            return law.tells(word);
        }

        /** A DAY goes by: how many LETTERS were brought. */
        int passDay(Texts texts) {
            hour = 0;
            takePost(texts);
            doors.beginRound();
            int brought = 0;
            for (int line = 0; line < texts.walks; line++) {
                brought += visit(texts.walkDoor[line], texts.law);
            }
            ageLetters();
            hunger = Math.min(FULL, hunger + 5);
            health = held(hunger > 50 ? health - 5 : health + 3, 0, FULL);
            doors.calmTheUnvisited();
            day++;
            return brought;
        }

        void copyFrom(World from) {
            doors.copyFrom(from.doors);
            bag.copyFrom(from.bag);
            System.arraycopy(from.gifts, 0, gifts, 0, KINDS);
            System.arraycopy(from.bookRows, 0, bookRows, 0, Math.min(bookRows.length, from.bookRows.length));
            written = from.written;
            health = from.health;
            hunger = from.hunger;
            sat = from.sat;
            lost = from.lost;
            hour = from.hour;
            rain = from.rain;
            day = from.day;
            draws = from.draws;
        }

        private void takePost(Texts texts) {
            for (int line = 0; line < texts.posts; line++) {
                if (texts.postDay[line] == day) {
                    arrive(texts.postDoor[line], texts.postKind[line], texts.postMuch[line]);
                }
            }
        }

        private int visit(int door, Law law) {
            int brought = 0;
            int i = 0;
            for (int left = bag.size; left > 0; left--) {
                boolean tries = bag.door[i] == door && hour < DUSK && health > 0;
                if (tries && bringAt(i, law) != NONE) {
                    brought++;
                } else {
                    i++;
                }
            }
            return brought;
        }

        private boolean isOpened(int chance) {
            if (inThought) {
                return chance >= 500;
            }
            draws = 1664525 * draws + 1013904223;
            return (draws >>> 8) % 1000 < chance;
        }

        private int take(int i, int much) {
            int kind = bag.kind[i];
            int door = bag.door[i];
            int taken = much;
            if (kind == BILL) {
                taken = Math.min(much, doors.purse[door]);
                doors.purse[door] -= taken;
            }
            gifts[kind] += taken;
            doors.got[door]++;
            return taken;
        }

        private void feel(int i, int much) {
            int kind = bag.kind[i];
            int door = bag.door[i];
            doors.face[door] = held(doors.face[door] + SMILES[kind], -MOST_FACE, MOST_FACE);
            if (kind == ANGER) {
                health = Math.max(0, health - much);
            }
            if (kind == INVITATION) {
                hunger = Math.max(0, hunger - much);
            }
            if (kind == NEWS && bag.much[i] >= SAD) {
                sat++;
                health = Math.min(FULL, health + 5);
            }
        }

        private void ageLetters() {
            int i = 0;
            for (int left = bag.size; left > 0; left--) {
                bag.age[i]++;
                if (bag.age[i] < OLDEST) {
                    i++;
                } else {
                    lost++;
                    write(LOST, bag.number[i], bag.door[i]);
                    bag.remove(i);
                }
            }
        }

        private void write(int what, int which, int much) {
            int at = written * BOOK_ROW;
            if (at + BOOK_ROW > bookRows.length) {
                return;
            }
            bookRows[at] = day;
            bookRows[at + 1] = what;
            bookRows[at + 2] = which;
            bookRows[at + 3] = much;
            written++;
        }
    }

    /** What can be undone: the latest few worlds as they were before something was done. */
    private static final class Past {
        private static final int MOST_KEPT = 6;

        int count;
        private int newest;
        private final World[] kept = new World[MOST_KEPT];

        Past() {
            for (int i = 0; i < MOST_KEPT; i++) {
                kept[i] = new World(false, false);
            }
        }

        void keep(World world) {
            newest = (newest + 1) % MOST_KEPT;
            kept[newest].copyFrom(world);
            count = Math.min(MOST_KEPT, count + 1);
        }

        boolean goBack(World world) {
            if (count == 0) {
                return false;
            }
            world.copyFrom(kept[newest]);
            newest = (newest + MOST_KEPT - 1) % MOST_KEPT;
            count--;
            return true;
        }

        void forget() {
            count = 0;
        }
    }

    /** The four TEXTS as they were read. */
    private static final class Texts {
        final Law law = new Law();
        int posts;
        final int[] postDay = new int[MOST_LINES];
        final int[] postDoor = new int[MOST_LINES];
        final int[] postKind = new int[MOST_LINES];
        final int[] postMuch = new int[MOST_LINES];
        int walks;
        final int[] walkDoor = new int[MOST_LINES];
        int streets;
        /** The shortest street between two DOORS, either way; 0 where there is none. */
        final int[] lengths = new int[MOST_DOORS * MOST_DOORS];

        int linesOf(int k) {
            switch (k) {
                case LAW: return law.lines;
                case POST: return posts;
                case ROUND: return walks;
                default: return streets;
            }
        }

        int streetBetween(int a, int b) {
            int length = lengths[a * MOST_DOORS + b];
            return length == 0 ? NONE : length;
        }

        void addStreet(int a, int b, int length) {
            int before = lengths[a * MOST_DOORS + b];
            if (before == 0 || length < before) {
                lengths[a * MOST_DOORS + b] = length;
                lengths[b * MOST_DOORS + a] = length;
            }
        }

        void clearOne(int k) {
            switch (k) {
                case LAW:
                    law.clear();
                    break;
                case POST:
                    posts = 0;
                    break;
                case ROUND:
                    walks = 0;
                    break;
                default:
                    streets = 0;
                    Arrays.fill(lengths, 0);
            }
        }

        void copyFrom(Texts from) {
            for (int k = 0; k < TEXTS; k++) {
                copyOne(k, from);
            }
        }

        void copyOne(int k, Texts from) {
            switch (k) {
                case LAW:
                    law.copyFrom(from.law);
                    break;
                case POST:
                    posts = from.posts;
                    System.arraycopy(from.postDay, 0, postDay, 0, MOST_LINES);
                    System.arraycopy(from.postDoor, 0, postDoor, 0, MOST_LINES);
                    System.arraycopy(from.postKind, 0, postKind, 0, MOST_LINES);
                    System.arraycopy(from.postMuch, 0, postMuch, 0, MOST_LINES);
                    break;
                case ROUND:
                    walks = from.walks;
                    System.arraycopy(from.walkDoor, 0, walkDoor, 0, MOST_LINES);
                    break;
                default:
                    streets = from.streets;
                    System.arraycopy(from.lengths, 0, lengths, 0, lengths.length);
            }
        }
    }

    /**
     * THE LAW. E and B of each line stand in one row of steps, what is worked on before what works on it,
     * so that they are told without recursion: a step below NAME is a NUMBER, one below WORK a name.
     */
    private static final class Law {
        static final int OPENS = 0;
        static final int GIVES = 1;
        static final int TIRES = 2;

        static final int KIND = 0;
        static final int MUCH = 1;
        static final int AGE = 2;
        static final int FACE = 3;
        static final int LOVE = 4;
        static final int PURSE = 5;
        static final int HEALTH = 6;
        static final int HUNGER = 7;
        static final int HOUR = 8;
        static final int RAIN = 9;
        static final int DAY = 10;
        private static final int NAMES = 11;

        static final int NAME = 10000;
        static final int WORK = 20000;
        /** Of these three the higher one binds its parts more strongly: the Reader sets them in order by it. */
        static final int OR = WORK + 1;
        static final int AND = WORK + 2;
        static final int NOT = WORK + 3;
        static final int PLUS = WORK + 4;
        static final int MINUS = WORK + 5;
        static final int TIMES = WORK + 6;
        static final int PART = WORK + 7;
        static final int BELOW = WORK + 8;
        static final int EQUAL = WORK + 9;
        static final int ABOVE = WORK + 10;

        /** Eight open ( leave nine levels with an or and an and each; a comparison needs four more. */
        private static final int MOST_STACKED = 32;

        int lines;
        int size;
        final int[] word = new int[MOST_LINES];
        final int[] begin = new int[MOST_LINES];
        /** Where E ends and B begins. */
        final int[] middle = new int[MOST_LINES];
        final int[] stop = new int[MOST_LINES];
        /** No step comes without a token of its own, and no token without a byte. */
        final int[] steps = new int[MOST_BYTES];
        /** What the names mean while it is asked. */
        final int[] known = new int[NAMES];
        private final int[] stack = new int[MOST_STACKED];

        int tells(int asked) {
            int told = plainly(asked);
            for (int i = 0; i < lines; i++) {
                boolean isPlain = middle[i] == stop[i];
                if (word[i] == asked && (isPlain || worked(middle[i], stop[i]) != 0)) {
                    told = worked(begin[i], middle[i]);
                    break;
                }
            }
            switch (asked) {
                case OPENS: return held(told, 0, 1000);
                case GIVES: return held(told, 0, 99);
                default: return held(told, 0, 20);
            }
        }

        void clear() {
            lines = 0;
            size = 0;
        }

        void addStep(int step) {
            if (size < MOST_BYTES) {
                steps[size] = step;
                size++;
            }
        }

        void copyFrom(Law from) {
            lines = from.lines;
            size = from.size;
            System.arraycopy(from.word, 0, word, 0, MOST_LINES);
            System.arraycopy(from.begin, 0, begin, 0, MOST_LINES);
            System.arraycopy(from.middle, 0, middle, 0, MOST_LINES);
            System.arraycopy(from.stop, 0, stop, 0, MOST_LINES);
            System.arraycopy(from.steps, 0, steps, 0, MOST_BYTES);
        }

        /** What is told where no line tells it. */
        private int plainly(int asked) {
            switch (asked) {
                case OPENS: return 900 - 100 * known[RAIN] + 20 * known[FACE];
                case GIVES: return known[MUCH];
                default: return 1;
            }
        }

        private int worked(int from, int to) {
            int top = -1;
            for (int i = from; i < to; i++) {
                int step = steps[i];
                if (step < WORK && top + 1 < MOST_STACKED) {
                    top++;
                    stack[top] = step < NAME ? step : known[step - NAME];
                } else if (step == NOT && top >= 0) {
                    stack[top] = 1 - stack[top];
                } else if (step >= WORK && top >= 1) {
                    top--;
                    stack[top] = joined(step, stack[top], stack[top + 1]);
                }
            }
            return top >= 0 ? stack[top] : 0;
        }

        private static int joined(int work, int a, int b) {
            switch (work) {
                case OR: return a | b;
                case AND: return a & b;
                case PLUS: return a + b;
                case MINUS: return a - b;
                case TIMES: return a * b;
                case PART: return b == 0 ? 0 : a / b;
                case BELOW: return a < b ? 1 : 0;
                case EQUAL: return a == b ? 1 : 0;
                default: return a > b ? 1 : 0;
            }
        }
    }

    /** A text's TOKENS. A sign that stands alone is of the sort of its own byte. */
    private static final class Tokens {
        static final int BAD = 0;
        static final int NUMBER = 1;
        static final int END = 2;
        private static final int BLANK = 3;
        private static final int LETTER = 4;

        private static final String SIGNS = ";+-*/()<=>";
        /** In the order of their numbers below. */
        private static final String WORDS =
            "opens gives tires when or and not kind much age face love purse health hunger hour rain day on to news bill kiss anger invitation text joke walk street ";
        static final int WORD = 256;
        static final int OPENS = WORD;
        static final int TIRES = WORD + 2;
        static final int WHEN = WORD + 3;
        static final int OR = WORD + 4;
        static final int AND = WORD + 5;
        static final int NOT = WORD + 6;
        static final int KIND = WORD + 7;
        static final int DAY = WORD + 17;
        static final int ON = WORD + 18;
        static final int TO = WORD + 19;
        static final int NEWS = WORD + 20;
        static final int WALK = WORD + 27;
        static final int STREET = WORD + 28;

        int count;
        final int[] sort = new int[MOST_BYTES + 1];
        final int[] value = new int[MOST_BYTES + 1];
        final int[] place = new int[MOST_BYTES + 1];
        private final int[] stop = new int[MOST_BYTES + 1];

        void scan(byte[] tape, int length) {
            count = 0;
            int before = BLANK;
            for (int i = 0; i < length && i < tape.length; i++) {
                int now = sortOf(tape[i]);
                boolean goesOn = now == before && (now == LETTER || now == NUMBER);
                if (goesOn && count > 0) {
                    stop[count - 1] = i + 1;
                } else if (now != BLANK) {
                    add(now, i, i + 1);
                }
                before = now;
            }
            add(END, length, length);
            for (int i = 0; i < count; i++) {
                weigh(i, tape);
            }
        }

        private void add(int newSort, int from, int to) {
            if (count <= MOST_BYTES) {
                sort[count] = newSort;
                value[count] = 0;
                place[count] = from;
                stop[count] = to;
                count++;
            }
        }

        private static int sortOf(int sign) {
            if (sign == 32 || sign == 10) {
                return BLANK;
            }
            if (isWithin(sign, '0', '9')) {
                return NUMBER;
            }
            if (isWithin(sign, 'a', 'z') || isWithin(sign, 'A', 'Z')) {
                return LETTER;
            }
            return sign > 0 && SIGNS.indexOf((char) sign) >= 0 ? sign : BAD;
        }

        /** Letters and digits can be told apart from none only once all that stand together are known. */
        private void weigh(int i, byte[] tape) {
            if (sort[i] == LETTER) {
                sort[i] = wordOf(tape, place[i], stop[i]);
            } else if (sort[i] == NUMBER && stop[i] - place[i] > 4) {
                sort[i] = BAD;
            } else if (sort[i] == NUMBER) {
                for (int j = place[i]; j < stop[i]; j++) {
                    value[i] = 10 * value[i] + tape[j] - '0';
                }
            }
        }

        private static int wordOf(byte[] tape, int from, int to) {
            int word = WORD;
            int begin = 0;
            for (int i = 0; i < WORDS.length(); i++) {
                if (WORDS.charAt(i) == ' ') {
                    if (i - begin == to - from && isWordAt(begin, tape, from, to)) {
                        return word;
                    }
                    word++;
                    begin = i + 1;
                }
            }
            return BAD;
        }

        private static boolean isWordAt(int begin, byte[] tape, int from, int to) {
            for (int i = from; i < to; i++) {
                if (WORDS.charAt(begin + i - from) != tape[i]) {
                    return false;
                }
            }
            return true;
        }
    }

    /** Reads a text into a draft. Behind a FAULT no token can stand anywhere, so that reading runs out. */
    private static final class Reader {
        private static final int CANNOT_STAND = 1;
        private static final int BAD_NUMBER = 2;
        private static final int TOO_MANY = 3;
        private static final int MOST_OPEN = 8;
        private static final int MOST_WAITING = 32;
        /** A ( waits as the weakest: nothing behind it takes it along. */
        private static final int BRACKET = 0;

        final Texts draft = new Texts();
        int fault;
        int place = NONE;
        private final Tokens tokens = new Tokens();
        private int at;
        private int doorCount;
        /** ( not and or whose right part is not read yet, and how many of them are ( or not. */
        private final int[] waiting = new int[MOST_WAITING];
        private int waits;
        private int opened;

        void forgive() {
            fault = 0;
            place = NONE;
        }

        /** Whether the first bytes of the TAPE are TEXT k; earlier FAULTS have been forgiven. */
        boolean read(int k, byte[] tape, int length, int doorsThere) {
            tokens.scan(tape, length);
            draft.clearOne(k);
            at = 0;
            doorCount = doorsThere;
            for (int line = 0; line <= MOST_LINES && sort() != Tokens.END; line++) {
                if (!begins(k, line)) {
                    break;
                }
                switch (k) {
                    case LAW:
                        lawLine(line);
                        break;
                    case POST:
                        postLine(line);
                        break;
                    case ROUND:
                        walkLine(line);
                        break;
                    default:
                        streetLine(line);
                }
            }
            return fault == 0;
        }

        private boolean begins(int k, int line) {
            if (!isFirstWord(k, sort())) {
                blame(CANNOT_STAND);
            } else if (line >= MOST_LINES) {
                blame(TOO_MANY);
            }
            return fault == 0;
        }

        private static boolean isFirstWord(int k, int sort) {
            switch (k) {
                case LAW: return isWithin(sort, Tokens.OPENS, Tokens.TIRES);
                case POST: return sort == Tokens.ON;
                case ROUND: return sort == Tokens.WALK;
                default: return sort == Tokens.STREET;
            }
        }

        private void lawLine(int line) {
            Law law = draft.law;
            law.word[line] = sort() - Tokens.OPENS;
            at++;
            law.begin[line] = law.size;
            sum();
            law.middle[line] = law.size;
            if (sort() == Tokens.WHEN) {
                at++;
                condition();
            }
            law.stop[line] = law.size;
            need(';');
            law.lines = line + 1;
        }

        private void postLine(int line) {
            need(Tokens.ON);
            draft.postDay[line] = number(0, 999);
            need(Tokens.TO);
            draft.postDoor[line] = number(0, doorCount - 1);
            draft.postKind[line] = kindWord();
            draft.postMuch[line] = number(1, MOST_MUCH);
            need(';');
            draft.posts = line + 1;
        }

        private void walkLine(int line) {
            need(Tokens.WALK);
            draft.walkDoor[line] = number(0, doorCount - 1);
            need(';');
            draft.walks = line + 1;
        }

        private void streetLine(int line) {
            need(Tokens.STREET);
            int a = number(0, doorCount - 1);
            if (sort() == Tokens.NUMBER && tokens.value[at] == a) {
                blame(BAD_NUMBER);
            }
            int b = number(0, doorCount - 1);
            int length = number(1, 99);
            need(';');
            if (fault == 0) {
                draft.addStreet(a, b, length);
            }
            draft.streets = line + 1;
        }

        /** B: a C behind another; what joins them waits until its right part is read. */
        private void condition() {
            waits = 0;
            opened = 0;
            for (int i = 0; i < MOST_BYTES && fault == 0; i++) {
                if (sort() == Tokens.NOT || sort() == '(') {
                    openOne();
                } else {
                    sum();
                    int relation = relation();
                    sum();
                    draft.law.addStep(relation);
                    closeAll();
                    if (!goesOn()) {
                        break;
                    }
                }
            }
        }

        private void openOne() {
            if (opened >= MOST_OPEN) {
                blame(TOO_MANY);
                return;
            }
            opened++;
            putOff(sort() == Tokens.NOT ? Law.NOT : BRACKET);
        }

        private int relation() {
            int sort = sort();
            if (sort != '<' && sort != '=' && sort != '>') {
                blame(CANNOT_STAND);
                return Law.EQUAL;
            }
            at++;
            if (sort == '=') {
                return Law.EQUAL;
            }
            return sort == '<' ? Law.BELOW : Law.ABOVE;
        }

        /** Behind a C: each ) that closes a ( before it. */
        private void closeAll() {
            for (int i = 0; i < MOST_OPEN && sort() == ')'; i++) {
                settle(Law.OR);
                if (waits == 0) {
                    break;
                }
                waits--;
                opened--;
                at++;
            }
        }

        private boolean goesOn() {
            if (sort() == Tokens.AND) {
                settle(Law.AND);
                putOff(Law.AND);
                return true;
            }
            settle(Law.OR);
            if (sort() == Tokens.OR) {
                putOff(Law.OR);
                return true;
            }
            if (waits > 0) {
                blame(CANNOT_STAND);
            }
            return false;
        }

        private void putOff(int work) {
            if (waits < MOST_WAITING) {
                waiting[waits] = work;
                waits++;
            }
            at++;
        }

        /** The right part of all that waits and is at least so strong, a not always, has been read. */
        private void settle(int weakest) {
            for (int i = waits - 1; i >= 0 && waiting[i] >= weakest; i--) {
                draft.law.addStep(waiting[i]);
                if (waiting[i] == Law.NOT) {
                    opened--;
                }
                waits = i;
            }
        }

        /** E */
        private void sum() {
            product();
            for (int i = 0; i < MOST_BYTES && (sort() == '+' || sort() == '-'); i++) {
                int work = sort() == '+' ? Law.PLUS : Law.MINUS;
                at++;
                product();
                draft.law.addStep(work);
            }
        }

        /** T */
        private void product() {
            operand();
            for (int i = 0; i < MOST_BYTES && (sort() == '*' || sort() == '/'); i++) {
                boolean isPart = sort() == '/';
                at++;
                if (isPart) {
                    draft.law.addStep(number(1, 9999));
                } else {
                    operand();
                }
                draft.law.addStep(isPart ? Law.PART : Law.TIMES);
            }
        }

        /** U */
        private void operand() {
            int sort = sort();
            if (sort == Tokens.NUMBER) {
                draft.law.addStep(tokens.value[at]);
                at++;
            } else if (isWithin(sort, Tokens.KIND, Tokens.DAY)) {
                draft.law.addStep(Law.NAME + sort - Tokens.KIND);
                at++;
            } else {
                blame(CANNOT_STAND);
            }
        }

        private int kindWord() {
            int kind = sort() - Tokens.NEWS;
            if (!isKind(kind)) {
                blame(CANNOT_STAND);
                return 0;
            }
            at++;
            return kind;
        }

        private int number(int least, int most) {
            if (sort() != Tokens.NUMBER) {
                blame(CANNOT_STAND);
                return 0;
            }
            int v = tokens.value[at];
            if (!isWithin(v, least, most)) {
                blame(BAD_NUMBER);
                return 0;
            }
            at++;
            return v;
        }

        private void need(int sort) {
            if (sort() == sort) {
                at++;
            } else {
                blame(CANNOT_STAND);
            }
        }

        private int sort() {
            if (fault != 0) {
                return Tokens.BAD;
            }
            return at < tokens.count ? tokens.sort[at] : Tokens.END;
        }

        private void blame(int what) {
            if (fault == 0) {
                fault = what;
                place = at < tokens.count ? tokens.place[at] : NONE;
            }
        }
    }

    /** What is told for thought: BEARS, OWES, WORD, ANSWERS, FACES. */
    private static final class Told {
        static final int ALPHABET = 26;
        /** Of one letter. */
        static final int MOST_STOCK = 9;
        private static final int MOST_BLOWS = 8;
        private static final int MOST_BLOW = 50;
        private static final int MOST_DEBTS = 16;
        private static final int MOST_DEBT = 99;
        private static final int MOST_SPELLED = 8;
        private static final int MOST_ANSWERS = 12;
        private static final int MOST_CHANGES = 8;
        private static final int MOST_CHANGE = 2;
        private static final int ALL_LETTERS = 63;

        int blowCount;
        final int[] blows = new int[MOST_BLOWS];
        int debtCount;
        /** What each DOOR must get less what it must give: more of the debts is never asked. */
        final int[] nets = new int[MOST_DOORS];
        final int[] stock = new int[ALPHABET];
        int spelledCount;
        /** How often each letter stands in the word. */
        final int[] spelled = new int[ALPHABET];
        int answerCount;
        /** How often KIND a was answered by KIND b, at a * KINDS + b. */
        final int[] answers = new int[KINDS * KINDS];
        int changeCount;
        final int[] changeLetters = new int[MOST_CHANGES];
        final int[] changes = new int[MOST_CHANGES];

        int addBlow(int v) {
            if (v == 0) {
                blowCount = 0;
                return 0;
            }
            if (!isWithin(v, -MOST_BLOW, MOST_BLOW) || blowCount >= MOST_BLOWS) {
                return NONE;
            }
            blows[blowCount] = v;
            blowCount++;
            return blowCount;
        }

        int addDebt(int a, int b, int n) {
            if (a == NONE) {
                debtCount = 0;
                Arrays.fill(nets, 0);
                return 0;
            }
            boolean can = isWithin(a, 0, MOST_DOORS - 1) && isWithin(b, 0, MOST_DOORS - 1) && a != b
                && isWithin(n, 1, MOST_DEBT);
            if (!can || debtCount >= MOST_DEBTS) {
                return NONE;
            }
            nets[a] -= n;
            nets[b] += n;
            debtCount++;
            return debtCount;
        }

        int addSpelled(int letter) {
            if (letter == NONE) {
                spelledCount = 0;
                Arrays.fill(spelled, 0);
                return 0;
            }
            if (!isWithin(letter, 0, ALPHABET - 1) || spelledCount >= MOST_SPELLED) {
                return NONE;
            }
            spelled[letter]++;
            spelledCount++;
            return spelledCount;
        }

        int addAnswer(int a, int b) {
            if (a == NONE) {
                answerCount = 0;
                Arrays.fill(answers, 0);
                return 0;
            }
            if (!isKind(a) || !isKind(b) || answerCount >= MOST_ANSWERS) {
                return NONE;
            }
            answers[a * KINDS + b]++;
            answerCount++;
            return answerCount;
        }

        int addChange(int letters, int d) {
            if (letters == NONE) {
                changeCount = 0;
                return 0;
            }
            boolean can = isWithin(letters, 0, ALL_LETTERS) && isWithin(d, -MOST_CHANGE, MOST_CHANGE);
            if (!can || changeCount >= MOST_CHANGES) {
                return NONE;
            }
            changeLetters[changeCount] = letters;
            changes[changeCount] = d;
            changeCount++;
            return changeCount;
        }

        void copyFrom(Told from) {
            blowCount = from.blowCount;
            System.arraycopy(from.blows, 0, blows, 0, MOST_BLOWS);
            debtCount = from.debtCount;
            System.arraycopy(from.nets, 0, nets, 0, MOST_DOORS);
            System.arraycopy(from.stock, 0, stock, 0, ALPHABET);
            spelledCount = from.spelledCount;
            System.arraycopy(from.spelled, 0, spelled, 0, ALPHABET);
            answerCount = from.answerCount;
            System.arraycopy(from.answers, 0, answers, 0, KINDS * KINDS);
            changeCount = from.changeCount;
            System.arraycopy(from.changeLetters, 0, changeLetters, 0, MOST_CHANGES);
            System.arraycopy(from.changes, 0, changes, 0, MOST_CHANGES);
        }
    }

    /** What can be thought of what is told for thought alone. */
    private static final class Mind {
        static final int LAST_CHAIN_DAY = 99;
        private static final int GROUPS = 1 << MOST_DOORS;
        private static final int MYSTERIES = 6;
        /** How many KINDS change a FACE by -1, by 0, by 1, by 2. */
        private static final int[] KINDS_OF_CHANGE = {3, 2, 1, 1};
        /** Six letters' changes, each told from 0 on, sum up to 18: no sum runs over into the next one. */
        private static final int SUM_BITS = 6;

        /** By set of blows the most HEALTH behind them, 0 where none is left. */
        private final int[] best = new int[1 << Told.MOST_BLOWS];
        private final int[] debtors = new int[MOST_DOORS];
        /** By letter: one more of its change adds so much to the sums of all that it came to. */
        private final long[] units = new long[MYSTERIES];
        private final int[] possible = new int[MYSTERIES];

        int firstBlow(Told told, int health) {
            for (int i = 0; i < told.blowCount; i++) {
                int left = Math.min(FULL, health + told.blows[i]);
                if (left >= 1 && leftBehindAll(told, 1 << i, left) > 0) {
                    return i;
                }
            }
            return NONE;
        }

        int healthLeft(Told told, int health) {
            int left = leftBehindAll(told, 0, health);
            return left > 0 ? left : NONE;
        }

        /** More HEALTH is never worse, so of each set of blows the best order alone goes on. */
        private int leftBehindAll(Told told, int done, int health) {
            int all = (1 << told.blowCount) - 1;
            Arrays.fill(best, 0);
            best[done] = health;
            for (int set = done; set < all; set++) {
                for (int i = 0; i < told.blowCount && best[set] > 0; i++) {
                    int more = set | 1 << i;
                    int left = Math.min(FULL, best[set] + told.blows[i]);
                    if (more != set && left > best[more]) {
                        best[more] = left;
                    }
                }
            }
            return best[all];
        }

        /**
         * A group whose nets sum up to 0 needs one payment less than it has DOORS: as many groups as can be.
         * On the desk by set of debtors: what their nets sum up to, and from GROUPS on how many groups they make.
         */
        int fewestPayments(Told told, int[] desk) {
            int count = 0;
            for (int d = 0; d < MOST_DOORS; d++) {
                if (told.nets[d] != 0) {
                    debtors[count] = told.nets[d];
                    count++;
                }
            }
            desk[0] = 0;
            desk[GROUPS] = 0;
            for (int set = 1; set < 1 << count; set++) {
                groupUp(set, count, desk);
            }
            return count - desk[GROUPS + (1 << count) - 1];
        }

        private void groupUp(int set, int count, int[] desk) {
            int sum = 0;
            int groups = 0;
            for (int i = 0; i < count; i++) {
                int without = set & ~(1 << i);
                if (without != set) {
                    sum = desk[without] + debtors[i];
                    groups = Math.max(groups, desk[GROUPS + without]);
                }
            }
            desk[set] = sum;
            desk[GROUPS + set] = sum == 0 ? groups + 1 : groups;
        }

        int chainHad(int k, int m, int n) {
            int had = 1;
            int fresh = 1;
            for (int day = 1; day <= n; day++) {
                fresh = Math.min(fresh * k, m - had);
                had += fresh;
            }
            return had;
        }

        int chainFull(int k, int m) {
            for (int day = 0; day <= LAST_CHAIN_DAY; day++) {
                if (chainHad(k, m, day) == m) {
                    return day;
                }
            }
            return NONE;
        }

        int timesLaid(Told told) {
            if (told.spelledCount == 0) {
                return 0;
            }
            int times = Told.MOST_STOCK;
            for (int i = 0; i < Told.ALPHABET; i++) {
                if (told.spelled[i] > 0) {
                    times = Math.min(times, told.stock[i] / told.spelled[i]);
                }
            }
            return times;
        }

        int orders(Told told) {
            int orders = 1;
            int laid = 0;
            for (int i = 0; i < Told.ALPHABET; i++) {
                for (int alike = 1; alike <= told.spelled[i]; alike++) {
                    laid++;
                    orders = orders * laid / alike;
                }
            }
            return orders;
        }

        int likelyAnswer(Told told, int kind) {
            int likely = NONE;
            int most = 0;
            for (int b = 0; b < KINDS; b++) {
                int times = told.answers[kind * KINDS + b];
                if (times > most) {
                    most = times;
                    likely = b;
                }
            }
            return likely;
        }

        int follows(Told told, int kind) {
            int seen = 0;
            int now = kind;
            for (int behind = 0; behind <= KINDS; behind++) {
                if ((seen >> now & 1) == 1) {
                    return behind;
                }
                seen |= 1 << now;
                now = likelyAnswer(told, now);
                if (now == NONE) {
                    return behind == 0 ? 0 : NONE;
                }
            }
            return NONE;
        }

        /** At most 7 to the 6th, far below the number that the ways are told modulo. */
        int waysOfFaces(Told told) {
            Arrays.fill(possible, 0);
            Arrays.fill(units, 0L);
            long wanted = 0L;
            for (int t = 0; t < told.changeCount; t++) {
                int letters = told.changeLetters[t];
                int sum = told.changes[t] + Integer.bitCount(letters);
                if (sum < 0) {
                    return 0;
                }
                long one = 1L << SUM_BITS * t;
                wanted += sum * one;
                for (int i = 0; i < MYSTERIES; i++) {
                    units[i] += one * (letters >> i & 1);
                }
            }
            return waysFrom(0, wanted, units, possible);
        }

        /** In how many ways letters from this one on can make up what is wanted yet; notes what each can be. */
        private static int waysFrom(int letter, long wanted, long[] units, int[] possible) {
            if (letter >= MYSTERIES) {
                return wanted == 0L ? 1 : 0;
            }
            int all = 0;
            for (int change = 0; change < KINDS_OF_CHANGE.length; change++) {
                int here = waysFrom(letter + 1, wanted - change * units[letter], units, possible);
                if (here > 0) {
                    possible[letter] |= 1 << change;
                    all += here * KINDS_OF_CHANGE[change];
                }
            }
            return all;
        }

        int sureLetters(Told told) {
            waysOfFaces(told);
            int sure = 0;
            for (int i = 0; i < MYSTERIES; i++) {
                if (Integer.bitCount(possible[i]) == 1) {
                    sure |= 1 << i;
                }
            }
            return sure;
        }
    }

    /** What can be thought of STREETS, of THE BAG and of a row of DOORS. */
    private static final class Ways {
        static final int MOST_WEIGHT = 400;
        private static final int ROW = MOST_WEIGHT + 1;
        private static final int MOST_GOALS = 8;
        private static final int FAR = 1000000;

        private final int[] distance = new int[MOST_DOORS * MOST_DOORS];
        private final int[] goals = new int[MOST_GOALS];
        private final int[] piles = new int[MOST_DOORS];

        /**
         * How long the shortest walk is, or where it ends. On the desk by set of goals and the one at which
         * it ends the shortest walk, at set * MOST_GOALS + end.
         */
        int walkAll(int a, boolean where, World world, Texts texts, int[] desk) {
            int count = 0;
            for (int d = 0; d < world.doors.count; d++) {
                if (d != a && world.bag.countFor(d) > 0) {
                    if (count >= MOST_GOALS) {
                        return NONE;
                    }
                    goals[count] = d;
                    count++;
                }
            }
            if (count == 0) {
                return where ? a : 0;
            }
            measure(world.doors.count, texts);
            walkSets(a, count, desk);
            return shortestEnd(count, where, desk);
        }

        private void walkSets(int a, int count, int[] desk) {
            Arrays.fill(desk, 0, MOST_GOALS << count, FAR);
            for (int i = 0; i < count; i++) {
                desk[(1 << i) * MOST_GOALS + i] = distance[a * MOST_DOORS + goals[i]];
            }
            for (int set = 1; set < 1 << count; set++) {
                for (int i = 0; i < count; i++) {
                    if (desk[set * MOST_GOALS + i] < FAR) {
                        walkOn(set, i, count, desk);
                    }
                }
            }
        }

        private void walkOn(int set, int from, int count, int[] desk) {
            int walked = desk[set * MOST_GOALS + from];
            for (int i = 0; i < count; i++) {
                int more = (set | 1 << i) * MOST_GOALS + i;
                int length = walked + distance[goals[from] * MOST_DOORS + goals[i]];
                if ((set >> i & 1) == 0 && length < desk[more]) {
                    desk[more] = length;
                }
            }
        }

        private int shortestEnd(int count, boolean where, int[] desk) {
            int all = (1 << count) - 1;
            int shortest = FAR;
            int end = NONE;
            for (int i = 0; i < count; i++) {
                if (desk[all * MOST_GOALS + i] < shortest) {
                    shortest = desk[all * MOST_GOALS + i];
                    end = goals[i];
                }
            }
            return where || end == NONE ? end : shortest;
        }

        /** The shortest way between any two DOORS; FAR where there is none. */
        private void measure(int count, Texts texts) {
            for (int a = 0; a < count; a++) {
                for (int b = 0; b < count; b++) {
                    int length = texts.streetBetween(a, b);
                    distance[a * MOST_DOORS + b] = length == NONE ? FAR : length;
                }
                distance[a * MOST_DOORS + a] = 0;
            }
            for (int over = 0; over < count; over++) {
                for (int a = 0; a < count; a++) {
                    for (int b = 0; b < count; b++) {
                        int length = distance[a * MOST_DOORS + over] + distance[over * MOST_DOORS + b];
                        int before = distance[a * MOST_DOORS + b];
                        distance[a * MOST_DOORS + b] = Math.min(before, length);
                    }
                }
            }
        }

        /** At which DOOR a new box serves most, or how far the farthest is from it. */
        int newBox(boolean howFar, int count, Texts texts) {
            measure(count, texts);
            int nearest = FAR;
            int at = NONE;
            for (int a = 0; a < count; a++) {
                int farthest = 0;
                for (int b = 0; b < count; b++) {
                    farthest = Math.max(farthest, distance[a * MOST_DOORS + b]);
                }
                if (farthest < nearest) {
                    nearest = farthest;
                    at = a;
                }
            }
            return howFar && at != NONE ? nearest : at;
        }

        /**
         * How many LETTERS can be carried at most, or in how many ways (of 24 always below three millions, so
         * that no modulo is needed). On the desk by number and weight together the ways, at number * ROW + weight.
         */
        int loads(int most, boolean inWays, Bag bag, int[] desk) {
            Arrays.fill(desk, 0, (bag.size + 1) * ROW, 0);
            desk[0] = 1;
            for (int i = 0; i < bag.size; i++) {
                addLoad(i + 1, bag.much[i], most, desk);
            }
            for (int number = bag.size; number > 0; number--) {
                int sum = 0;
                for (int weight = 0; weight <= most; weight++) {
                    sum += desk[number * ROW + weight];
                }
                if (sum > 0) {
                    return inWays ? sum : number;
                }
            }
            return inWays ? 1 : 0;
        }

        /** Greater numbers first: a LETTER is not carried twice. */
        private void addLoad(int letters, int much, int most, int[] desk) {
            for (int number = letters; number >= 1; number--) {
                for (int weight = much; weight <= most; weight++) {
                    desk[number * ROW + weight] += desk[(number - 1) * ROW + weight - much];
                }
            }
        }

        /** The most FACE together of DOORS side by side, or where it begins. */
        int joyOfRow(boolean where, Doors doors) {
            int most = -MOST_FACE - 1;
            int begin = NONE;
            for (int a = 0; a < doors.count; a++) {
                int sum = 0;
                for (int b = a; b < doors.count; b++) {
                    sum += doors.face[b];
                    if (sum > most) {
                        most = sum;
                        begin = a;
                    }
                }
            }
            return where ? begin : most;
        }

        /** Who leaves piles whose remainders by 3 cancel out, bit by bit, wins: at which DOOR, or how many. */
        int goodMove(boolean howMany, World world) {
            int sum = 0;
            for (int d = 0; d < world.doors.count; d++) {
                piles[d] = world.bag.countFor(d);
                sum ^= piles[d] % 3;
            }
            for (int d = 0; d < world.doors.count; d++) {
                for (int taken = 1; taken <= Math.min(2, piles[d]); taken++) {
                    if ((sum ^ piles[d] % 3 ^ (piles[d] - taken) % 3) == 0) {
                        return howMany ? taken : d;
                    }
                }
            }
            return NONE;
        }
    }
}
