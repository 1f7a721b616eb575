/** Objects with some life in them, for tests that ask what a call leaves as it was. */
final class Lands {
    /** What rich() makes: its YEAR, PERSONS, FIELDS and PAPERS. */
    static final int YEAR = 1;
    static final int PERSONS = 6;
    static final int FIELDS = 4;
    static final int PAPERS = 9;

    static final int DEAD = 0;
    static final int SERVES = 3;
    static final int STRANGER = 4;

    /** PAPERS of rich(). */
    static final int FALLEN = 0;
    static final int LOAN = 1;
    static final int PLEDGE = 2;
    static final int SALE = 3;
    static final int GIFT = 4;
    static final int SERVED = 5;
    static final int VOID = 6;
    static final int PAID = 7;
    static final int LATE = 8;

    private Lands() {
    }

    static void empty(DebtYear x) {
        Check.due("the year of a new object", x.count(4), 0);
    }

    /**
     * PERSONS: 0 (DEAD since 1) with children 1 and 2, who have 3; a STRANGER 4; 5, DEAD without HEIRS.
     * FIELDS: 0 of 0, 1 of 1 (3 holds it), 2 of 2, 3 of 5. One PAPER of each state and kind.
     */
    static void rich(DebtYear x) {
        x.person(-60, -1, -1, 500);
        x.person(-40, 0, -1, 300);
        x.person(-38, -1, 0, 200);
        x.person(-10, 1, 2, 40);
        x.person(-30, -1, -1, 800);
        x.person(-99, -1, -1, 30);
        x.lives(STRANGER, true, true);
        x.fear(1, 20);
        x.fear(2, 0);
        x.field(0, 10, false);
        x.field(1, 4, true);
        x.field(2, 7, false);
        x.field(5, 99, true);
        x.shift(0, 49);
        x.shift(1, 12);
        laws(x);
        papers(x);
        x.image();
        x.year(12);
        x.die(DEAD);
        x.die(5);
        x.paper(1, 204, 12, 3, 0);
        sheets(x);
        Check.feed(x, "falls 1;");
        x.year(-1);
    }

    private static void laws(DebtYear x) {
        Check.text(x, 0, "falls kind=0 or word and owed<50;back walls=0;loan kind=1;");
        Check.text(x, 3, "falls left<9;back worth<10;loan term<9 and not stranger;");
        x.force(0, 0, 0);
        x.force(3, 1, 2);
        x.force(3, 0, 30);
    }

    private static void papers(DebtYear x) {
        x.paper(0, 102, 15, 9, 0);
        x.paper(1, 104, 50, 9, 0);
        x.paper(2, 204, 30, 400, 2);
        x.paper(3, 1, 60, 8, 0);
        x.paper(4, 103, 5, 7, 1);
        x.paper(6, 304, 20, 6, 0);
        x.paper(5, 402, 33, 5, 0);
        x.paper(1, 1, 10, 4, 0);
        x.pay(LOAN, 5);
        x.word(PLEDGE, 0);
        x.annul(VOID);
        x.pay(PAID, 10);
    }

    private static void sheets(DebtYear x) {
        x.sheet(0, 8, 5);
        for (int i = 0; i < 4; i++) {
            x.put(0, i, 12 - 3 * i);
        }
        x.sheet(1, 16, 20);
        x.put(1, 0, 31);
        x.put(1, 19, 30);
        x.sheet(2, 8, 3);
        x.put(2, 1, 2);
    }

    static void restored(DebtYear x) {
        rich(x);
        x.restore();
    }

    static void fullOfPersons(DebtYear x) {
        rich(x);
        for (int i = PERSONS; i < 14; i++) {
            x.person(0, 1, -1, 7);
        }
    }

    static void fullOfFields(DebtYear x) {
        rich(x);
        for (int i = FIELDS; i < 8; i++) {
            x.field(i % 4, i, false);
        }
    }

    static void fullOfPapers(DebtYear x) {
        rich(x);
        for (int i = PAPERS; i < 20; i++) {
            x.paper(0, 104, i, 400, 0);
        }
    }

    static void fullOfLaws(DebtYear x) {
        rich(x);
        for (int i = 3; i < 12; i++) {
            x.force(i % 2 * 3, i / 2 % 2, 10 * i);
        }
    }

    /** As many PERSONS, FIELDS, PAPERS, LAWS and TEXTS as there may be; the last ones of each are of the last PERSON. */
    static void fullOfAll(DebtYear x) {
        rich(x);
        for (int i = PERSONS; i < 14; i++) {
            x.person(0, i - 1, i - 2, 30 + i);
        }
        x.lives(13, true, true);
        x.fear(13, 13);
        for (int i = FIELDS; i < 8; i++) {
            x.field(i + 6, i, true);
        }
        for (int i = PAPERS; i < 20; i++) {
            x.paper(i == 19 ? 4 : 0, 1312, i, i - 5, 7);
        }
        x.word(19, 1);
        x.text(4);
        for (int i = 3; i < 12; i++) {
            x.force(3, i % 2, i);
        }
        int[] texts = {1, 2, 4};
        for (int t : texts) {
            Check.text(x, t, "falls worth+" + t + ";back word;loan kind;");
        }
    }

    /** So many bytes are on THE TAPE; rich() has left 8. */
    static void fedTo(DebtYear x, int length) {
        rich(x);
        int fed = 8;
        while (fed < length) {
            fed = x.feed(Math.min(8, length - fed), Check.bytes(" 12 and "));
        }
    }

    /** THE YEAR is so; nobody lives there. */
    static DebtYear in(int year) {
        DebtYear x = new DebtYear();
        toYear(x, year);
        return x;
    }

    /** YEARS GO BY, by harvests of 0, till THE YEAR is so. Sheet 3 is MISSING then. */
    static void toYear(DebtYear x, int year) {
        int goesBy = year - x.count(4);
        x.sheet(3, 8, 20);
        for (int i = 0; i < goesBy / 20; i++) {
            x.years(3);
        }
        x.sheet(3, 8, goesBy % 20);
        x.years(3);
        x.sheet(3, 0, 0);
        Check.due("the year", x.count(4), year);
    }

    static void endOfTime(DebtYear x) {
        rich(x);
        toYear(x, 400);
    }
}
