/** Promises 34 to 39. */
public final class SheetsWholeTest {
    public static void main(String[] args) {
        sheet();
        put();
        copy();
        image();
        imageOfWhatWasLived();
        imageHasNot();
        count();
        Check.end();
    }

    private static void sheet() {
        DebtYear x = new DebtYear();
        Check.due("no such sheet", x.sheet(-1, 8, 1), Check.BEYOND);
        Check.due("no such sheet", x.sheet(4, 8, 1), Check.BEYOND);
        int[] bits = {-8, 1, 7, 9, 24, 64};
        for (int b : bits) {
            Check.due("bits " + b, x.sheet(0, b, 1), Check.BEYOND);
        }
        Check.due("bits ahead of SIZE", x.sheet(0, 7, -1), Check.BEYOND);
        Check.due("n -1", x.sheet(0, 8, -1), Check.SIZE);
        Check.due("n 21", x.sheet(0, 8, 21), Check.BEYOND);
        Check.due("missing still", x.put(0, 0, 0), Check.MISSING);
        Check.due("8", x.sheet(0, 8, 20), 20);
        Check.due("16", x.sheet(1, 16, 1), 1);
        Check.due("32", x.sheet(3, 32, 0), 0);
        Check.due("the last one", x.put(0, 19, 1), 0);
        Check.due("0 numbers are not missing", x.put(3, 0, 1), Check.BEYOND);
        Check.due("bits 0", x.sheet(0, 0, 7), 0);
        Check.due("missing", x.put(0, 0, 1), Check.MISSING);
        Check.due("bits 0, n -1", x.sheet(1, 0, -1), Check.SIZE);
        Check.due("bits 0, n 21", x.sheet(1, 0, 21), Check.BEYOND);
        Check.due("a finding changes nothing", x.put(1, 0, 1), 0);
        x.sheet(0, 8, 2);
        x.put(0, 0, 31);
        x.put(0, 1, 31);
        x.sheet(0, 8, 2);
        Check.due("all are 0 anew", x.proves(0, 0, 20, 0), -1);
    }

    private static void put() {
        DebtYear x = new DebtYear();
        Check.due("no such sheet", x.put(-1, 0, 0), Check.BEYOND);
        Check.due("no such sheet", x.put(4, 0, 0), Check.BEYOND);
        Check.due("missing ahead of no such number", x.put(0, -1, 0), Check.MISSING);
        x.sheet(0, 8, 2);
        Check.due("no such number", x.put(0, -1, 0), Check.BEYOND);
        Check.due("no such number", x.put(0, 2, 0), Check.BEYOND);
        Check.due("put", x.put(0, 0, 256 + 10), 0);
        Check.due("its lowest 8 bits", x.proves(0, 0, 0, 0), -1);
        x.put(0, 0, 128 + 10);
        Check.due("all 8 of them", x.proves(0, 0, 0, 0), 0);
        x.sheet(0, 16, 2);
        x.put(0, 0, 256 + 10);
        Check.due("of 16", x.proves(0, 0, 0, 0), 0);
        x.put(0, 0, 65536 + 10);
        Check.due("its lowest 16 bits", x.proves(0, 0, 0, 0), -1);
        x.sheet(0, 32, 2);
        x.put(0, 0, 65536 + 10);
        Check.due("of 32", x.proves(0, 0, 0, 0), 0);
        x.put(0, 0, 10);
        Check.due("as it is", x.proves(0, 0, 0, 0), -1);
    }

    private static void copy() {
        DebtYear x = new DebtYear();
        x.sheet(0, 8, 6);
        x.sheet(1, 8, 4);
        x.sheet(2, 16, 4);
        for (int i = 0; i < 6; i++) {
            x.put(0, i, 10 + i);
        }
        Check.due("no such sheet", x.copy(-1, 0, 0, 0, 0), Check.BEYOND);
        Check.due("no such sheet", x.copy(4, 0, 0, 0, 0), Check.BEYOND);
        Check.due("no such sheet", x.copy(0, 0, -1, 0, 0), Check.BEYOND);
        Check.due("no such sheet ahead of missing", x.copy(3, 0, 4, 0, 0), Check.BEYOND);
        Check.due("missing", x.copy(3, 0, 0, 0, 0), Check.MISSING);
        Check.due("missing", x.copy(0, 0, 3, 0, 99), Check.MISSING);
        Check.due("kind ahead of too many", x.copy(0, 0, 2, 0, 99), Check.KIND);
        int[][] beyond = {{-1, 0, 1}, {0, -1, 1}, {0, 0, -1}, {0, 0, 5}, {3, 0, 4}, {0, 1, 4}, {6, 0, 1}, {7, 0, 0},
            {0, 5, 0}, {Integer.MAX_VALUE, 0, 1}, {0, Integer.MAX_VALUE, Integer.MAX_VALUE}, {1, 1, Integer.MAX_VALUE}};
        for (int[] b : beyond) {
            Check.due("BEYOND", x.copy(0, b[0], 1, b[1], b[2]), Check.BEYOND);
        }
        Check.due("none", x.copy(0, 6, 1, 4, 0), 0);
        Check.due("four", x.copy(0, 2, 1, 0, 4), 4);
        told(x, 1, 12, 13, 14, 15);
        Check.due("two", x.copy(0, 0, 1, 1, 2), 2);
        told(x, 1, 12, 10, 11, 15);
        told(x, 0, 10, 11, 12, 13, 14, 15);
        Check.due("within one, up", x.copy(0, 0, 0, 1, 5), 5);
        told(x, 0, 10, 10, 11, 12, 13, 14);
        Check.due("within one, down", x.copy(0, 2, 0, 0, 4), 4);
        told(x, 0, 11, 12, 13, 14, 13, 14);
    }

    /** What a sheet has, seen by the harvests of the years that go by. */
    private static void told(DebtYear x, int s, int... harvests) {
        int before = x.image();
        x.person(0, -1, -1, 1000);
        int me = x.count(0) - 1;
        x.field(me, 90, false);
        int due = 1000;
        x.sheet(3, 8, 1);
        for (int i = 0; i < harvests.length; i++) {
            x.copy(s, i, 3, 0, 1);
            x.years(3);
            due += 9 * harvests[i] - 10;
            Check.due("number " + i, x.personIs(me, 2), due);
        }
        Check.due("restore", x.restore(), before);
        x.sheet(3, 0, 0);
    }

    private static void image() {
        DebtYear x = new DebtYear();
        Check.due("none", x.restore(), Check.NONE);
        x.person(-5, -1, -1, 9995);
        x.person(-4, 0, -1, 60);
        x.field(0, 10, true);
        x.paper(6, 1, 7, 9, 0);
        x.shift(0, 5);
        Check.rule(x, "1", "1", "1");
        x.year(10);
        Check.due("image", x.image(), 1);

        x.year(20);
        x.person(0, 1, -1, 30);
        x.field(1, 3, false);
        x.paper(1, 102, 5, 9, 0);
        x.paper(3, 1, 5, 9, 0);
        x.pay(0, 7);
        x.word(0, 1);
        x.die(1);
        x.lives(0, true, true);
        x.fear(0, 9);
        x.shift(0, 9);
        Check.text(x, 0, "falls 0;back 0;loan 0;");
        Check.text(x, 3, "falls 0;back 0;loan 0;");
        x.force(0, 0, 0);
        Check.due("law", x.law(0, 0), 2);

        for (int i = 0; i < 2; i++) {
            Check.due("restore", x.restore(), 1);
            Check.due("the year", x.count(4), 1);
            Check.due("persons", x.count(0), 2);
            Check.due("fields", x.count(1), 1);
            Check.due("papers", x.count(2), 1);
            Check.due("open", x.count(3), 1);
            Check.due("stores", x.count(5), 9989 + 50);
            Check.due("eaten", x.count(6), 20);
            Check.due("lost", x.count(7), 6);
            Check.due("paid", x.paperIs(0, 4), 0);
            Check.due("word", x.word(0, 0), 2);
            Check.due("serves", x.personIs(0, 3), 1);
            Check.due("not dead", x.personIs(1, 1), -1);
            Check.due("holder", x.fieldIs(0, 2), 0);
            Check.due("fear", x.fear(0, 4), 3);
            Check.due("shift", x.shift(0, 6), 5);
            Check.due("law", x.law(0, 0), 0);
            Check.due("its text", x.falls(0, 0, 1), 2);
            Check.due("text 3 was never told", x.force(3, 0, 0), Check.NONE);
            Check.due("text 0 as it was", x.force(0, 0, 0), 2);
            Check.due("by it", x.falls(0, 0, 1), 2);
            x.year(0);
            x.pay(0, 1);
        }
        x.year(0);
        Check.due("a second image", x.image(), 3);
        x.year(0);
        Check.due("the one before is gone", x.restore(), 3);
        x.person(0, -1, -1, 1);
        Check.due("a person that is new behind a restore", x.personIs(2, 1), -1);
        Check.due("its fear", x.fear(2, 1), 3);
    }

    /** What an image has of persons, fields, papers and laws that are no more as they were made. */
    private static void imageOfWhatWasLived() {
        DebtYear x = new DebtYear();
        x.person(0, -1, -1, 500);
        x.person(0, -1, -1, 5);
        x.person(0, 0, -1, 500);
        x.field(0, 10, true);
        x.field(2, 10, true);
        x.paper(3, 2, 50, 9, 0);
        x.paper(2, 200, 60, 8, 1);
        x.paper(6, 200, 70, 7, 0);
        x.pay(0, 20);
        x.word(0, 1);
        x.annul(1);
        x.fear(0, 50);
        x.fear(2, 50);
        x.year(0);
        x.lives(2, true, true);
        x.die(0);
        Check.rule(x, "stranger and kind=3 and paid=20", "stranger and walls", "0");
        x.force(0, 0, 50);
        int[] asked = all(x);
        x.image();
        for (int i = 0; i < 3; i++) {
            x.fear(2, i);
            x.fear(0, i);
            x.lives(2, false, false);
            x.year(10);
            x.paper(6, 102, 5, 9, 0);
            x.annul(2);
            x.pay(0, 5);
            x.word(0, 0);
            x.die(1);
            x.die(2);
            Check.text(x, 0, "falls 0;back 0;loan 0;");
            x.force(0, 1, 0);
            x.force(0, 0, 0);
            x.shift(0, 1);
            x.restore();
            int[] now = all(x);
            for (int k = 0; k < asked.length; k++) {
                Check.due("answer " + k, now[k], asked[k]);
            }
            x.person(0, -1, -1, 1);
            Check.due("one who is new behind a restore", x.personIs(3, 6), 0);
            Check.due("one who is new behind a restore", x.personIs(3, 3), -1);
            Check.due("a paper that is new behind a restore", x.paper(1, 301, 9, 9, 0), 3);
            int[] due = {1, 3, 1, 9, 0, 1, 9, -1, 2, 0};
            for (int what = 0; what < 10; what++) {
                Check.due("its " + what, x.paperIs(3, what), due[what]);
            }
            Check.due("nobody there is a stranger", x.falls(3, 0, 1), 0);
            x.pay(3, 1);
            x.lives(3, true, true);
            x.year(0);
        }
    }

    private static int[] all(DebtYear x) {
        int[] answers = new int[3 * 8 + 2 * 4 + 3 * 10 + 8 + 12];
        int n = 0;
        for (int i = 0; i < 24; i++) {
            answers[n++] = x.personIs(i / 8, i % 8);
        }
        for (int i = 0; i < 8; i++) {
            answers[n++] = x.fieldIs(i / 4, i % 4);
        }
        for (int i = 0; i < 30; i++) {
            answers[n++] = x.paperIs(i / 10, i % 10);
        }
        for (int what = 0; what < 8; what++) {
            answers[n++] = x.count(what);
        }
        for (int bench = 0; bench < 2; bench++) {
            answers[n++] = x.falls(0, bench, 1);
            answers[n++] = x.back(1, bench, 1);
            answers[n++] = x.back(0, bench, 1);
            answers[n++] = x.law(bench, 400);
            answers[n++] = x.law(bench, 49);
            answers[n++] = x.left(bench, 0);
        }
        return answers;
    }

    private static void imageHasNot() {
        DebtYear x = new DebtYear();
        x.sheet(0, 8, 2);
        x.feed(3, 0);
        x.year(-1);
        x.image();
        x.sheet(0, 16, 4);
        x.sheet(1, 8, 1);
        x.feed(2, 0);
        x.year(-1);
        x.year(-1);
        x.restore();
        Check.due("sheet 0 stays", x.put(0, 3, 1), 0);
        Check.due("sheet 1 stays", x.put(1, 0, 1), 0);
        Check.due("the tape stays", x.feed(1, 0), 6);
        Check.due("count(8) stays", x.count(8), 3);
    }

    private static void count() {
        DebtYear x = new DebtYear();
        x.person(0, -1, -1, 500);
        x.person(0, -1, -1, 9);
        x.person(0, -1, -1, 9999);
        x.field(2, 99, false);
        x.field(0, 1, false);
        x.paper(1, 1, 5, 9, 0);
        x.paper(1, 1, 5, 9, 0);
        x.paper(1, 1, 5, 9, 0);
        x.annul(1);
        x.die(1);
        x.year(10);
        int[] due = {2, 2, 3, 2, 1, 500 + 1 - 10 + 9989, 20, 9 + 99, 0};
        for (int what = 0; what < 9; what++) {
            Check.due("count(" + what + ")", x.count(what), due[what]);
        }
        Check.due("another what", x.count(9), Check.BEYOND);
        Check.due("this one, too", x.count(8), 1);
        Check.due("another what", x.count(-1), Check.BEYOND);
        Check.due("count(8)", x.count(8), 2);
        everyActIsCounted(x);
    }

    private static void everyActIsCounted(DebtYear x) {
        x.person(999, 0, 0, 0);
        x.lives(-1, false, false);
        x.fear(-1, 0);
        x.die(1);
        x.personIs(-1, 0);
        x.field(-1, 0, false);
        x.fieldIs(-1, 0);
        x.heirs(-1);
        x.share(0, 2);
        x.paper(-1, 0, 0, 0, 0);
        x.as(0, 6);
        x.word(0, 3);
        x.pay(1, 1);
        x.annul(1);
        x.paperIs(0, 10);
        x.shift(2, 0);
        x.left(2, 0);
        x.feed(0, 0);
        x.text(5);
        x.force(0, 0, 0);
        x.law(0, 0);
        x.falls(9, 0, 0);
        x.truly(9, 0, 0);
        x.back(9, 0, 0);
        x.dress(9, 0, 0);
        x.price(9, 0);
        x.year(-1);
        x.years(0);
        x.chain(9);
        x.last(-1, 0, 0, 0);
        x.pays(0, 0, 1, 0, 1);
        x.proves(0, 0, 0, 0);
        x.sheet(0, 8, -1);
        x.put(0, 0, 0);
        x.copy(0, 0, 1, 0, 0);
        x.restore();
        Check.due("36 findings more", x.count(8), 38);
    }
}
