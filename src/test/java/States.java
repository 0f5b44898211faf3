/** Objects in states at which something can be refused. */
final class States {
    private States() {
    }

    static KindPostman fresh() {
        return new KindPostman();
    }

    /** Of everything something, nothing full: three doors, letters 4 to 7 and 9, four things to undo. */
    static KindPostman rich() {
        KindPostman x = new KindPostman();
        x.door(9, 4, 50);
        x.post(0, 5, 1);
        x.days(9);
        x.set(0, 0, 3);
        x.door(-5, 0, 7);
        x.door(0, 9, 999);
        Words.tell(x, 0, "opens 1000; gives 2 when kind = 1;");
        Words.tell(x, 1, "on 10 to 2 joke 9; on 10 to 1 kiss 3;");
        Words.tell(x, 2, "walk 1;");
        Words.tell(x, 3, "street 0 1 5; street 1 2 8;");
        x.state(77);
        tellThoughts(x);
        x.rain(1);
        x.post(0, 1, 20);
        x.post(0, 0, 60);
        x.post(1, 4, 3);
        x.post(0, 2, 31);
        x.post(2, 6, 5);
        x.post(2, 3, 12);
        x.bring(1);
        x.bring(2);
        x.set(1, 2, 8);
        x.set(3, 0, 60);
        x.set(4, 0, 33);
        x.image(true);
        x.days(2);
        x.rain(4);
        x.post(1, 5, 44);
        Words.tell(x, 0, "opens 1000; gives;");
        Words.feed(x, "tires 2; opens 55 kind");
        return x;
    }

    /** Nothing more goes into anything: doors, bag, book, what can be undone, TAPE, what is told for thought. */
    static KindPostman full() {
        KindPostman x = new KindPostman();
        for (int d = 0; d < 12; d++) {
            x.door(d - 6, d % 10, 90 * d);
        }
        Words.tell(x, 0, "opens 0; tires 0;");
        Words.tell(x, 2, "walk 0;".repeat(16));
        for (int i = 0; i < 24; i++) {
            x.post(i % 3, i % 7, 8 + i % 2);
        }
        x.image(true);
        x.days(2);
        for (int i = 0; i < 4; i++) {
            x.rain(i + 1);
        }
        for (int i = 0; i < 16; i++) {
            x.owes(i % 12, (i + 1 + i / 12) % 12, i + 1);
        }
        for (int i = 0; i < 12; i++) {
            x.answer(i % 5, i % 7);
        }
        for (int i = 0; i < 8; i++) {
            x.has(i, i + 1);
            x.spell(i / 2);
            x.blow(i % 2 == 0 ? -6 - i : 9);
            x.face(1 << i % 6, i % 6 / 4);
        }
        Words.feed(x, "tires 2;" + " ".repeat(391) + "x");
        return x;
    }

    /** HEALTH is 0, and there is a letter. */
    static KindPostman weak() {
        KindPostman x = new KindPostman();
        x.door(0, 0, 0);
        Words.tell(x, 0, "opens 1000;");
        x.set(3, 0, 5);
        x.post(0, 5, 9);
        x.post(0, 3, 9);
        x.bring(1);
        return x;
    }

    /** DAY is 9999. */
    static KindPostman late() {
        KindPostman x = early(39);
        x.door(2, 2, 2);
        x.rain(3);
        return x;
    }

    /** DAY is 9960 and some more, which is not 0. */
    static KindPostman early(int more) {
        KindPostman x = new KindPostman();
        for (int i = 0; i < 166; i++) {
            x.days(60);
        }
        x.days(more);
        return x;
    }

    private static void tellThoughts(KindPostman x) {
        x.blow(-20);
        x.blow(30);
        x.owes(2, 3, 9);
        x.owes(3, 5, 4);
        x.has(6, 5);
        x.has(7, 9);
        x.spell(6);
        x.spell(7);
        x.answer(2, 3);
        x.answer(3, 6);
        x.face(3, -1);
        x.face(4, 2);
    }
}
