import java.util.function.Consumer;

/** The boundaries and findings of Terms 2 and promises 11 to 16, a test of each side of each. */
public final class PapersEdgesTest {
    private static final int[] NO_PAPER = {-1, Lands.PAPERS, 19, 20, Integer.MIN_VALUE, Integer.MAX_VALUE};
    private static final int[] CLOSED = {Lands.FALLEN, Lands.VOID, Lands.PAID};

    /** Arguments of paper() that lead to each finding behind BEYOND, in rich(); FULL in fullOfPapers() alone. */
    private static final int[] ONE_PERSON = {1, 101, 5, 9, 0};
    private static final int[] BY_IS_DEAD = {1, 1, 5, 9, 0};
    private static final int[] TO_IS_DEAD = {1, 100, 5, 9, 0};
    private static final int[] NO_SUCH_FIELD = {3, 201, 5, 9, 9};
    private static final int[] SERVES_ALREADY = {6, 301, 5, 9, 0};
    private static final int[] RIGHT = {1, 102, 5, 9, 0};

    public static void main(String[] args) {
        kindsOfPaper();
        who();
        sums();
        dues();
        beyondAheadOfAll();
        sizeAheadOfOthers();
        noneAheadOfOthers();
        missingThings();
        thingsThatDoNotMatter();
        taken();
        twentyPapers();
        newPaper();
        as();
        word();
        payFindings();
        payEdges();
        payToAFullStore();
        annul();
        paperIs();
        freeWhenNotOpen();
        soldFieldsComeBack();
        Check.end();
    }

    private static int make(DebtYear x, int[] a) {
        return x.paper(a[0], a[1], a[2], a[3], a[4]);
    }

    private static int[] with(int[] a, int place, int v) {
        int[] b = a.clone();
        b[place] = v;
        return b;
    }

    private static void finds(String what, int finding, int[] a) {
        Twins.keep(what, finding, Lands::rich, x -> make(x, a));
    }

    private static void makes(String what, int[] a) {
        DebtYear x = Twins.of(Lands::rich);
        Check.due(what, make(x, a), Lands.PAPERS);
        Check.due(what + ": papers", x.count(2), Lands.PAPERS + 1);
    }

    private static void kindsOfPaper() {
        int[] wrong = {-1, 7, Integer.MIN_VALUE, Integer.MAX_VALUE};
        for (int kind : wrong) {
            finds("kind " + kind, Check.BEYOND, with(RIGHT, 0, kind));
        }
        for (int kind = 0; kind < 7; kind++) {
            makes("kind " + kind, new int[] {kind, 201, 5, 9, 2});
        }
    }

    /** who: 100 times BY, and TO. */
    private static void who() {
        int[] wrong = {-1, -100, -101, -102, 106, 113, 199, 602, 600, 6, 99, 1302, 1402, 10002, Integer.MIN_VALUE, Integer.MAX_VALUE};
        for (int who : wrong) {
            finds("who " + who, Check.BEYOND, with(RIGHT, 1, who));
        }
        Twins.keep("nobody is there", Check.BEYOND, Lands::empty, x -> make(x, with(RIGHT, 1, 0)));
        makes("1 to 4", with(RIGHT, 1, 104));
        makes("4 to 1", with(RIGHT, 1, 401));
        DebtYear x = Twins.of(Lands::fullOfPersons);
        Check.due("13 to 12", x.paper(1, 1312, 5, 9, 0), Lands.PAPERS);
        Check.due("BY", x.paperIs(Lands.PAPERS, 1), 13);
        Check.due("TO", x.paperIs(Lands.PAPERS, 2), 12);
        Twins.keep("13 to 14", Check.BEYOND, Lands::fullOfPersons, y -> y.paper(1, 1314, 5, 9, 0));
        Twins.keep("14 to 13", Check.BEYOND, Lands::fullOfPersons, y -> y.paper(1, 1413, 5, 9, 0));
    }

    /** A SUM (1 to 9999). */
    private static void sums() {
        int[] wrong = {0, -1, 10000, Integer.MIN_VALUE, Integer.MAX_VALUE};
        for (int sum : wrong) {
            finds("sum " + sum, Check.BEYOND, with(RIGHT, 2, sum));
        }
        makes("sum 1", with(RIGHT, 2, 1));
        makes("sum 9999", with(RIGHT, 2, 9999));
    }

    /** Due in a year (not ahead of THE YEAR, at most 400). */
    private static void dues() {
        int[] wrong = {Lands.YEAR - 1, -1, 401, Integer.MIN_VALUE, Integer.MAX_VALUE};
        for (int due : wrong) {
            finds("due " + due, Check.BEYOND, with(RIGHT, 3, due));
        }
        makes("due in THE YEAR", with(RIGHT, 3, Lands.YEAR));
        makes("due in 400", with(RIGHT, 3, 400));
        Consumer<DebtYear> inTheEnd = x -> {
            Lands.toYear(x, 400);
            x.person(0, -1, -1, 0);
            x.person(0, -1, -1, 0);
        };
        Twins.keep("due in 399 in 400", Check.BEYOND, inTheEnd, x -> x.paper(1, 1, 5, 399, 0));
        Twins.answer("due in 400 in 400", 0, inTheEnd, x -> x.paper(1, 1, 5, 400, 0));
        Twins.keep("due in 401 in 400", Check.BEYOND, inTheEnd, x -> x.paper(1, 1, 5, 401, 0));
    }

    private static void beyondAheadOfAll() {
        int[][] others = {ONE_PERSON, BY_IS_DEAD, TO_IS_DEAD, NO_SUCH_FIELD, SERVES_ALREADY, RIGHT};
        for (int[] a : others) {
            int[][] wrong = {with(a, 0, -1), with(a, 0, 7), with(a, 1, -1), with(a, 1, a[1] / 100 * 100 + 6),
                with(a, 1, 600 + a[1] % 100), with(a, 2, 0), with(a, 2, 10000), with(a, 3, 0), with(a, 3, 401)};
            for (int[] b : wrong) {
                finds("BEYOND ahead of others", Check.BEYOND, b);
                Twins.keep("BEYOND ahead of FULL", Check.BEYOND, Lands::fullOfPapers, x -> make(x, b));
            }
        }
        finds("they are one who is not there", Check.BEYOND, with(ONE_PERSON, 1, 606));
    }

    private static void sizeAheadOfOthers() {
        finds("they are one", Check.SIZE, ONE_PERSON);
        finds("they are the last one", Check.SIZE, with(ONE_PERSON, 1, 404));
        finds("SIZE ahead of NONE", Check.SIZE, with(ONE_PERSON, 1, 0));
        finds("SIZE ahead of NONE", Check.SIZE, with(ONE_PERSON, 1, 505));
        finds("SIZE ahead of MISSING", Check.SIZE, with(NO_SUCH_FIELD, 1, 202));
        finds("SIZE ahead of TAKEN", Check.SIZE, with(SERVES_ALREADY, 1, 303));
        Twins.keep("SIZE ahead of FULL", Check.SIZE, Lands::fullOfPapers, x -> make(x, ONE_PERSON));
    }

    private static void noneAheadOfOthers() {
        finds("BY is dead", Check.NONE, BY_IS_DEAD);
        finds("TO is dead", Check.NONE, TO_IS_DEAD);
        finds("both are dead", Check.NONE, with(RIGHT, 1, 5));
        finds("NONE ahead of MISSING: BY", Check.NONE, with(NO_SUCH_FIELD, 1, 1));
        finds("NONE ahead of MISSING: TO", Check.NONE, with(NO_SUCH_FIELD, 1, 200));
        finds("NONE, though BY holds it", Check.NONE, new int[] {3, 1, 5, 9, 0});
        finds("NONE ahead of TAKEN: TO", Check.NONE, with(SERVES_ALREADY, 1, 300));
        Consumer<DebtYear> deadServes = x -> {
            Lands.rich(x);
            x.die(Lands.SERVES);
        };
        Twins.keep("NONE ahead of TAKEN: BY", Check.NONE, deadServes, x -> make(x, SERVES_ALREADY));
        Twins.keep("NONE ahead of FULL: BY", Check.NONE, Lands::fullOfPapers, x -> make(x, BY_IS_DEAD));
        Twins.keep("NONE ahead of FULL: TO", Check.NONE, Lands::fullOfPapers, x -> make(x, TO_IS_DEAD));
    }

    /** MISSING: of a PLEDGE, SALE or GIFT BY holds no such FIELD. */
    private static void missingThings() {
        int[] wrong = {-1, Lands.FIELDS, 7, 8, Integer.MIN_VALUE, Integer.MAX_VALUE, 0, 1, 3};
        for (int kind = 2; kind <= 4; kind++) {
            for (int thing : wrong) {
                finds("kind " + kind + " of field " + thing, Check.MISSING, new int[] {kind, 201, 5, 9, thing});
                int k = kind;
                Twins.keep("MISSING ahead of FULL", Check.MISSING, Lands::fullOfPapers, x -> x.paper(k, 201, 5, 9, thing));
            }
            finds("its own that another one holds", Check.MISSING, new int[] {kind, 102, 5, 9, 1});
            makes("another one's that it holds", new int[] {kind, 302, 5, 9, 1});
            makes("a pledged one", new int[] {kind, 201, 5, 9, 2});
        }
    }

    /** thing; of others it does not matter. */
    private static void thingsThatDoNotMatter() {
        int[] kinds = {0, 1, 5, 6};
        int[] things = {-1, 0, 2, Lands.FIELDS, 99, Integer.MIN_VALUE, Integer.MAX_VALUE};
        for (int kind : kinds) {
            for (int thing : things) {
                DebtYear x = Twins.of(Lands::rich);
                Check.due("kind " + kind + " of " + thing, x.paper(kind, 201, 5, 9, thing), Lands.PAPERS);
                Check.due("it has none", x.paperIs(Lands.PAPERS, 7), -1);
                Check.due("nothing moves", x.fieldIs(2, 2), 2);
                Check.due("a law sees no worth", worthSeen(x), 0);
            }
        }
    }

    private static int worthSeen(DebtYear x) {
        x.text(1);
        Check.due("text", Check.text(x, 1, "falls worth or walls;back 0;loan 0;"), -1);
        x.force(1, 0, 0);
        return x.falls(Lands.PAPERS, 0, 1);
    }

    private static void taken() {
        finds("BY serves", Check.TAKEN, SERVES_ALREADY);
        finds("BY serves the same one", Check.TAKEN, with(SERVES_ALREADY, 1, 304));
        Twins.keep("TAKEN ahead of FULL", Check.TAKEN, Lands::fullOfPapers, x -> make(x, SERVES_ALREADY));
        makes("TO serves", with(SERVES_ALREADY, 1, 103));
        for (int kind = 0; kind <= 5; kind++) {
            makes("another kind", new int[] {kind, 302, 5, 9, 1});
        }
    }

    /** PAPERS 0, 1, .. (at most 20), those that are not OPEN any more too. */
    private static void twentyPapers() {
        Consumer<DebtYear> nineteen = x -> {
            Lands.rich(x);
            for (int i = Lands.PAPERS; i < 19; i++) {
                Check.due("paper", make(x, RIGHT), i);
            }
        };
        Twins.answer("the twentieth", 19, nineteen, x -> make(x, RIGHT));
        for (int kind = 0; kind < 6; kind++) {
            int k = kind;
            Twins.keep("a twenty-first", Check.FULL, Lands::fullOfPapers, x -> x.paper(k, 201, 5, 9, 2));
        }
        Twins.keep("a twenty-first", Check.FULL, Lands::fullOfPapers, x -> x.paper(6, 201, 5, 9, 0));
        DebtYear x = Twins.of(Lands::fullOfPapers);
        for (int p = 0; p < 20; p++) {
            x.annul(p);
        }
        Check.due("none is open", x.count(3), 0);
        Check.due("but there are 20", make(x, RIGHT), Check.FULL);
        Check.due("the last one", x.paperIs(19, 3), 19);
        Check.due("no twenty-first", x.paperIs(20, 3), Check.BEYOND);
    }

    /** Of THE YEAR, nothing PAID, WORD 2 at first, OPEN. */
    private static void newPaper() {
        for (int kind = 0; kind < 7; kind++) {
            DebtYear x = Twins.of(Lands::rich);
            x.paper(kind, 201, 77, 12, 2);
            boolean field = kind >= 2 && kind <= 4;
            int[] is = {kind, 2, 1, 77, 0, Lands.YEAR, 12, field ? 2 : -1, 2, 0};
            for (int what = 0; what < 10; what++) {
                Check.due("kind " + kind + ", " + what, x.paperIs(Lands.PAPERS, what), is[what]);
            }
            Check.due("holder", x.fieldIs(2, 2), kind == 3 || kind == 4 ? 1 : 2);
            Check.due("serves", x.personIs(2, 3), kind == 6 ? 1 : -1);
            Check.due("stores stay", x.count(5), Twins.of(Lands::rich).count(5));
        }
    }

    private static void as() {
        for (int p : NO_PAPER) {
            Twins.keep("as(" + p + ", 0)", Check.BEYOND, Lands::rich, x -> x.as(p, 0));
        }
        int[] wrong = {-1, 7, Integer.MIN_VALUE, Integer.MAX_VALUE};
        for (int kind : wrong) {
            Twins.keep("as(0, " + kind + ")", Check.BEYOND, Lands::rich, x -> x.as(0, kind));
        }
        int[] papers = {Lands.FALLEN, Lands.LOAN, Lands.PLEDGE, Lands.SALE, Lands.GIFT, Lands.VOID, Lands.SERVED};
        int[] under = {0b1, 0b11, 0b111, 0b1001, 0b11001, 0b100001, 0b1000111};
        for (int its = 0; its < 7; its++) {
            for (int kind = 0; kind < 7; kind++) {
                int p = papers[its];
                int k = kind;
                int want = (under[its] >> kind & 1) == 1 ? p : Check.KIND;
                Twins.keep("kind " + its + " as " + kind, want, Lands::rich, x -> x.as(p, k));
            }
        }
    }

    /** A WORD (0 there was none, 1 there was one, 2 nobody knows; 2 at first). */
    private static void word() {
        for (int p : NO_PAPER) {
            Twins.keep("word(" + p + ", 0)", Check.BEYOND, Lands::rich, x -> x.word(p, 0));
        }
        int[] wrong = {-1, 3, Integer.MIN_VALUE, Integer.MAX_VALUE};
        for (int v : wrong) {
            Twins.keep("word(0, " + v + ")", Check.BEYOND, Lands::rich, x -> x.word(0, v));
        }
        Twins.keep("the word that it has", 2, Lands::rich, x -> x.word(Lands.LOAN, 2));
        Twins.keep("the word that it has", 0, Lands::rich, x -> x.word(Lands.PLEDGE, 0));
        DebtYear x = Twins.of(Lands::rich);
        for (int p = 0; p < Lands.PAPERS; p++) {
            Check.due("at first", x.word(p, 0), p == Lands.PLEDGE ? 0 : 2);
            Check.due("then", x.word(p, 1), 0);
            Check.due("then", x.word(p, 2), 1);
            Check.due("then", x.word(p, 2), 2);
        }
    }

    private static void payFindings() {
        for (int p : NO_PAPER) {
            Twins.keep("pay(" + p + ", 1)", Check.BEYOND, Lands::rich, x -> x.pay(p, 1));
        }
        int[] wrong = {0, -1, 10000, Integer.MIN_VALUE, Integer.MAX_VALUE};
        for (int n : wrong) {
            Twins.keep("BEYOND ahead of SIZE, MISSING: " + n, Check.BEYOND, Lands::rich, x -> x.pay(Lands.LOAN, n));
            Twins.keep("BEYOND ahead of MISSING: " + n, Check.BEYOND, Lands::rich, x -> x.pay(Lands.SALE, n));
            for (int p : CLOSED) {
                Twins.keep("BEYOND ahead of NONE: " + n, Check.BEYOND, Lands::rich, x -> x.pay(p, n));
            }
        }
        for (int p : CLOSED) {
            Twins.keep("not open", Check.NONE, Lands::rich, x -> x.pay(p, 1));
            Twins.keep("NONE ahead of SIZE", Check.NONE, Lands::rich, x -> x.pay(p, 34));
            Twins.keep("NONE ahead of SIZE and MISSING", Check.NONE, Lands::rich, x -> x.pay(p, 9999));
            Consumer<DebtYear> poor = x -> {
                Lands.rich(x);
                x.die(x.paperIs(p, 1));
            };
            Twins.keep("NONE ahead of MISSING", Check.NONE, poor, x -> x.pay(p, 1));
        }
        // 0 is DEAD and has nothing; it owes 60.
        Twins.keep("BY has nothing", Check.MISSING, Lands::rich, x -> x.pay(Lands.SALE, 1));
        Twins.keep("BY has nothing", Check.MISSING, Lands::rich, x -> x.pay(Lands.SALE, 60));
        Twins.keep("SIZE ahead of MISSING", Check.SIZE, Lands::rich, x -> x.pay(Lands.SALE, 61));
        Twins.keep("SIZE ahead of MISSING", Check.SIZE, Lands::rich, x -> x.pay(Lands.SALE, 9999));
        // 1 owes 45 still, and has 307.
        Twins.keep("above what is OWED", Check.SIZE, Lands::rich, x -> x.pay(Lands.LOAN, 46));
    }

    private static void payEdges() {
        DebtYear x = Twins.of(Lands::rich);
        Check.due("1", x.pay(Lands.LOAN, 1), 44);
        Check.due("all but 1", x.pay(Lands.LOAN, 43), 1);
        Check.due("it is open", x.paperIs(Lands.LOAN, 9), 0);
        Check.due("more than that", x.pay(Lands.LOAN, 2), Check.SIZE);
        Check.due("all", x.pay(Lands.LOAN, 1), 0);
        Check.due("it is paid", x.paperIs(Lands.LOAN, 9), 1);
        Check.due("paid", x.paperIs(Lands.LOAN, 4), 50);
        Check.due("BY's store", x.personIs(1, 2), 307 - 45);

        DebtYear y = new DebtYear();
        y.person(0, -1, -1, 9999);
        y.person(0, -1, -1, 0);
        y.paper(1, 1, 9999, 9, 0);
        Check.due("9999", y.pay(0, 9999), 0);
        Check.due("all it had", y.personIs(0, 2), 0);
        Check.due("all of it", y.personIs(1, 2), 9999);
        Check.due("nothing was lost", y.count(7), 0);
        y.paper(1, 100, 50, 9, 0);
        y.pay(1, 30);
        y.paper(1, 1, 40, 9, 0);
        Check.due("one more than it has", y.pay(2, 31), Check.MISSING);
        Check.due("nothing was paid", y.paperIs(2, 4), 0);
        Check.due("all it has", y.pay(2, 30), 10);
    }

    /** STORE 9999 at most, here and always; what is above is lost, and what would come to one who is DEAD. */
    private static void payToAFullStore() {
        DebtYear x = new DebtYear();
        x.person(0, -1, -1, 100);
        x.person(0, -1, -1, 9980);
        x.paper(1, 1, 100, 9, 0);
        x.pay(0, 19);
        Check.due("just full", x.personIs(1, 2), 9999);
        Check.due("nothing was lost", x.count(7), 0);
        Check.due("one above", x.pay(0, 1), 80);
        Check.due("full", x.personIs(1, 2), 9999);
        Check.due("1 was lost", x.count(7), 1);
        Check.due("BY paid it", x.personIs(0, 2), 80);
        Check.due("it is paid", x.paperIs(0, 4), 20);
        x.die(1);
        Check.due("lost", x.count(7), 1 + 9999);
        Check.due("to the dead", x.pay(0, 80), 0);
        Check.due("has nothing", x.personIs(1, 2), 0);
        Check.due("lost", x.count(7), 1 + 9999 + 80);
    }

    private static void annul() {
        for (int p : NO_PAPER) {
            Twins.keep("annul(" + p + ")", Check.BEYOND, Lands::rich, x -> x.annul(p));
        }
        for (int p : CLOSED) {
            Twins.keep("not open", Check.NONE, Lands::rich, x -> x.annul(p));
        }
        DebtYear x = Twins.of(Lands::rich);
        int stores = x.count(5);
        Check.due("what was owed", x.annul(Lands.LOAN), 45);
        Check.due("all", x.annul(Lands.PLEDGE), 30);
        Check.due("a sale", x.annul(Lands.SALE), 60);
        Check.due("a gift", x.annul(Lands.GIFT), 5);
        Check.due("the last one", x.annul(Lands.LATE), 12);
        Check.due("void", x.paperIs(Lands.LATE, 9), 3);
        Check.due("twice", x.annul(Lands.LATE), Check.NONE);
        Check.due("nobody pays", x.count(5), stores);
        int[] holders = {0, 3, 2, 5};
        for (int f = 0; f < Lands.FIELDS; f++) {
            Check.due("no field moves", x.fieldIs(f, 2), holders[f]);
        }
    }

    private static void paperIs() {
        for (int p : NO_PAPER) {
            Twins.keep("paperIs(" + p + ", 0)", Check.BEYOND, Lands::rich, x -> x.paperIs(p, 0));
            Twins.keep("paperIs(" + p + ", 9)", Check.BEYOND, Lands::rich, x -> x.paperIs(p, 9));
        }
        int[] wrong = {-1, 10, Integer.MIN_VALUE, Integer.MAX_VALUE};
        for (int what : wrong) {
            Twins.keep("paperIs(0, " + what + ")", Check.BEYOND, Lands::rich, x -> x.paperIs(0, what));
        }
        int[][] is = {{0, 1, 2, 15, 0, 0, 9, -1, 2, 2}, {1, 1, 4, 50, 5, 0, 9, -1, 2, 0}, {2, 2, 4, 30, 0, 0, 400, 2, 0, 0},
            {3, 0, 1, 60, 0, 0, 8, 0, 2, 0}, {4, 1, 3, 5, 0, 0, 7, 1, 2, 0}, {6, 3, 4, 20, 0, 0, 6, -1, 2, 0},
            {5, 4, 2, 33, 0, 0, 5, -1, 2, 3}, {1, 0, 1, 10, 10, 0, 4, -1, 2, 1}, {1, 2, 4, 12, 0, 1, 3, -1, 2, 0}};
        for (int p = 0; p < Lands.PAPERS; p++) {
            for (int what = 0; what < 10; what++) {
                int paper = p;
                int w = what;
                Twins.keep("paperIs(" + p + ", " + what + ")", is[p][what], Lands::rich, x -> x.paperIs(paper, w));
            }
        }
    }

    /** A SERVED makes BY serve TO, till it is not OPEN any more (then BY is FREE). */
    private static void freeWhenNotOpen() {
        DebtYear paid = Twins.of(Lands::rich);
        Check.due("all but 1", paid.pay(Lands.SERVED, 19), 1);
        Check.due("serves", paid.personIs(Lands.SERVES, 3), 4);
        Check.due("all", paid.pay(Lands.SERVED, 1), 0);
        Check.due("PAID: free", paid.personIs(Lands.SERVES, 3), -1);
        Check.due("may serve anew", make(paid, SERVES_ALREADY), Lands.PAPERS);

        DebtYear annulled = Twins.of(Lands::rich);
        annulled.annul(Lands.SERVED);
        Check.due("VOID: free", annulled.personIs(Lands.SERVES, 3), -1);
        Check.due("may serve anew", make(annulled, SERVES_ALREADY), Lands.PAPERS);
        Check.due("serves another one", annulled.personIs(Lands.SERVES, 3), 1);

        DebtYear fallen = Twins.of(Lands::rich);
        fallen.word(Lands.SERVED, 1);
        fallen.shift(0, 48);
        fallen.year(10);
        Check.due("fallen", fallen.paperIs(Lands.SERVED, 9), 2);
        Check.due("FALLEN: free", fallen.personIs(Lands.SERVES, 3), -1);

        DebtYear due = Twins.of(Lands::rich);
        for (int i = 1; i < 6; i++) {
            due.year(30);
        }
        Check.due("not due yet", due.personIs(Lands.SERVES, 3), 4);
        due.year(30);
        Check.due("PAID as it is due: free", due.personIs(Lands.SERVES, 3), -1);
        Check.due("paid", due.paperIs(Lands.SERVED, 9), 1);

        for (int kind = 0; kind <= 5; kind++) {
            DebtYear x = Twins.of(Lands::rich);
            x.paper(kind, 304, 5, Lands.YEAR, 1);
            x.pay(Lands.PAPERS, 5);
            x.paper(1, 304, 5, Lands.YEAR, 1);
            x.annul(Lands.PAPERS + 1);
            x.paper(kind == 2 ? 2 : 1, 304, 5, Lands.YEAR, 1);
            x.year(0);
            Check.due("kind " + kind + " is paid", x.paperIs(Lands.PAPERS, 9), 1);
            Check.due("another one is void", x.paperIs(Lands.PAPERS + 1, 9), 3);
            Check.due("another one was due", x.paperIs(Lands.PAPERS + 2, 9), 1);
            Check.due("it serves still", x.personIs(Lands.SERVES, 3), Lands.STRANGER);
        }

        DebtYear open = new DebtYear();
        open.person(0, -1, -1, 0);
        open.person(0, -1, -1, 0);
        open.field(0, 1, false);
        open.paper(6, 1, 9, 0, 0);
        open.year(0);
        Check.due("a SERVED that is not paid stays open", open.paperIs(0, 9), 0);
        Check.due("serves", open.personIs(0, 3), 1);
        Check.due("though it is under PLEDGE, no field goes", open.fieldIs(0, 2), 0);
    }

    /** When a SALE or GIFT is PAID its FIELD comes back to BY, if TO holds it. */
    private static void soldFieldsComeBack() {
        for (int kind = 3; kind <= 4; kind++) {
            DebtYear x = new DebtYear();
            for (int i = 0; i < 3; i++) {
                x.person(0, -1, -1, 500);
            }
            x.field(0, 1, false);
            x.paper(kind, 1, 20, 9, 0);
            x.pay(0, 19);
            Check.due("1 is owed: TO has it", x.fieldIs(0, 2), 1);
            x.pay(0, 1);
            Check.due("paid: BY has it", x.fieldIs(0, 2), 0);
            x.paper(kind, 1, 20, 9, 0);
            x.paper(kind, 102, 30, 9, 0);
            x.pay(1, 20);
            Check.due("paid, but TO has it no more", x.fieldIs(0, 2), 2);
            x.pay(2, 30);
            Check.due("back to who sold it last", x.fieldIs(0, 2), 1);
            x.paper(kind, 100, 20, 9, 0);
            Check.due("0 has it again", x.fieldIs(0, 2), 0);
            x.annul(3);
            Check.due("void: it stays", x.fieldIs(0, 2), 0);
        }
        DebtYear pledge = new DebtYear();
        pledge.person(0, -1, -1, 500);
        pledge.person(0, -1, -1, 500);
        pledge.field(0, 1, false);
        pledge.paper(2, 1, 20, 9, 0);
        pledge.paper(4, 1, 30, 9, 0);
        Check.due("a pledge is paid", pledge.pay(0, 20), 0);
        Check.due("its field does not come back, though TO holds it", pledge.fieldIs(0, 2), 1);
    }
}
