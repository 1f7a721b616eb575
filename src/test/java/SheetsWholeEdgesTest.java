import java.util.function.Consumer;

/** The boundaries and findings of SHEETS (Terms 7) and promises 34 to 39. */
public final class SheetsWholeEdgesTest {
    private static final int[] NO_SHEET = {-1, 4, Integer.MIN_VALUE, Integer.MAX_VALUE};
    private static final int[] NO_BITS = {-8, -1, 1, 4, 7, 9, 15, 17, 24, 31, 33, 64, Integer.MIN_VALUE, Integer.MAX_VALUE};

    public static void main(String[] args) {
        sheetFindings();
        sheetOrder();
        sheetEdges();
        allNumbersAreZero();
        missingSheets();
        putFindings();
        putEdges();
        lowestBits();
        copyFindings();
        copyOrder();
        copyEdges();
        copyWithinOne();
        imageAndRestore();
        newestImage();
        imageHasAll();
        imageHasNot();
        imageOfFullLands();
        numbersAnewBehindRestore();
        whatIsGoneDoesNothing();
        countFindings();
        countsOfFindings();
        counts();
        fiveHundredTwelveCalls();
        Check.end();
    }

    private static void sheetFindings() {
        for (int s : NO_SHEET) {
            Twins.keep("sheet " + s, Check.BEYOND, Lands::rich, x -> x.sheet(s, 8, 1));
            Twins.keep("sheet " + s, Check.BEYOND, Lands::rich, x -> x.sheet(s, 0, 0));
        }
        for (int bits : NO_BITS) {
            Twins.keep("bits " + bits, Check.BEYOND, Lands::rich, x -> x.sheet(0, bits, 1));
        }
        int[] widths = {0, 8, 16, 32};
        int[] below = {-1, -20, Integer.MIN_VALUE};
        int[] above = {21, 22, Integer.MAX_VALUE};
        for (int bits : widths) {
            for (int n : below) {
                Twins.keep("bits " + bits + ", n " + n, Check.SIZE, Lands::rich, x -> x.sheet(0, bits, n));
            }
            for (int n : above) {
                Twins.keep("bits " + bits + ", n " + n, Check.BEYOND, Lands::rich, x -> x.sheet(0, bits, n));
            }
        }
    }

    /** BEYOND: no such sheet, or bits. SIZE: n is below 0. */
    private static void sheetOrder() {
        for (int s : NO_SHEET) {
            Twins.keep("BEYOND ahead of SIZE: sheet " + s, Check.BEYOND, Lands::rich, x -> x.sheet(s, 8, -1));
        }
        for (int bits : NO_BITS) {
            Twins.keep("BEYOND ahead of SIZE: bits " + bits, Check.BEYOND, Lands::rich, x -> x.sheet(0, bits, -1));
        }
    }

    /** SHEETS 0 to 3 are rows of up to 20 numbers of 8, 16 or 32 bits. */
    private static void sheetEdges() {
        int[] widths = {8, 16, 32};
        int[] sizes = {0, 1, 19, 20};
        for (int s = 0; s < 4; s++) {
            for (int bits : widths) {
                for (int n : sizes) {
                    DebtYear x = Twins.of(Lands::rich);
                    Check.due("sheet(" + s + ", " + bits + ", " + n + ")", x.sheet(s, bits, n), n);
                    Check.due("one more", x.put(s, n, 1), Check.BEYOND);
                    Check.due("the last one", x.put(s, n - 1, 1), n == 0 ? Check.BEYOND : 0);
                    Check.due("all of it", x.copy(s, 0, s, 0, n), n);
                }
            }
        }
    }

    private static void allNumbersAreZero() {
        DebtYear x = new DebtYear();
        x.sheet(0, 8, 20);
        for (int i = 0; i < 20; i++) {
            x.put(0, i, 31);
        }
        Check.due("told anew", x.sheet(0, 8, 20), 20);
        Check.due("all are 0", x.proves(0, 0, 100, 0), -1);
        for (int i = 0; i < 20; i++) {
            x.put(0, i, 31);
        }
        x.sheet(0, 8, 2);
        x.sheet(0, 8, 20);
        Check.due("all are 0", x.proves(0, 0, 100, 0), -1);
        x.put(0, 0, 31);
        x.sheet(0, 0, 20);
        x.sheet(0, 32, 20);
        Check.due("all are 0", x.proves(0, 0, 100, 0), -1);
    }

    /** bits 0: it is MISSING: n (0). */
    private static void missingSheets() {
        int[] sizes = {0, 1, 20};
        for (int s = 0; s < 4; s++) {
            for (int n : sizes) {
                DebtYear x = Twins.of(Lands::rich);
                Check.due("sheet(" + s + ", 0, " + n + ")", x.sheet(s, 0, n), 0);
                Check.due("missing", x.put(s, 0, 1), Check.MISSING);
                Check.due("missing", x.years(s), Check.MISSING);
                Check.due("missing", x.proves(0, 0, 0, s), Check.MISSING);
                Check.due("missing", x.copy(s, 0, s, 0, 0), Check.MISSING);
            }
        }
        Twins.keep("missing already", 0, Lands::rich, x -> x.sheet(3, 0, 0));
        Twins.keep("missing already", 0, Lands::rich, x -> x.sheet(3, 0, 20));
    }

    private static void putFindings() {
        for (int s : NO_SHEET) {
            Twins.keep("sheet " + s, Check.BEYOND, Lands::rich, x -> x.put(s, 0, 1));
        }
        int[] indexes = {0, -1, 20, Integer.MIN_VALUE, Integer.MAX_VALUE};
        for (int i : indexes) {
            Twins.keep("MISSING ahead of no such number: " + i, Check.MISSING, Lands::rich, x -> x.put(3, i, 1));
        }
        int[][] wrong = {{0, -1}, {0, 5}, {1, -1}, {1, 20}, {2, -1}, {2, 3}, {0, 19}, {0, Integer.MIN_VALUE}, {1, Integer.MAX_VALUE}};
        for (int[] w : wrong) {
            Twins.keep("number " + w[1] + " of sheet " + w[0], Check.BEYOND, Lands::rich, x -> x.put(w[0], w[1], 1));
        }
        Consumer<DebtYear> noNumbers = x -> x.sheet(3, 16, 0);
        Twins.keep("of no numbers", Check.BEYOND, noNumbers, x -> x.put(3, 0, 1));
    }

    private static void putEdges() {
        int[][] right = {{0, 0}, {0, 4}, {1, 0}, {1, 19}, {2, 0}, {2, 2}};
        for (int[] r : right) {
            DebtYear x = Twins.of(Lands::rich);
            Check.due("number " + r[1] + " of sheet " + r[0], x.put(r[0], r[1], 1), 0);
        }
        DebtYear x = new DebtYear();
        x.sheet(0, 8, 4);
        x.put(0, 2, 31);
        Check.due("that one", x.proves(0, 0, 999, 0), 2);
        x.put(0, 1, 1);
        Check.due("and that one", x.proves(0, 0, 999, 0), 1);
        x.put(0, 1, 0);
        x.put(0, 2, 30);
        Check.due("and no other one", x.proves(0, 0, 10, 0), -1);
        Twins.keep("what it is", 0, Lands::rich, y -> y.put(0, 0, 12));
        Twins.keep("what it is by its lowest bits", 0, Lands::rich, y -> y.put(0, 0, 12 + 256));
        Twins.keep("what it is by its lowest bits", 0, Lands::rich, y -> y.put(1, 19, 30 - 65536));
    }

    /** Number i of a sheet becomes v (its lowest bits). */
    private static void lowestBits() {
        int[] widths = {8, 16, 32};
        long[] above = {1L << 8, 1L << 16, 1L << 32};
        for (int k = 0; k < 3; k++) {
            for (int h = 0; h <= 30; h += 10) {
                DebtYear x = new DebtYear();
                x.sheet(0, widths[k], 2);
                x.put(0, 0, (int) (h + above[k]));
                Check.due("what is above is cut, " + widths[k], x.proves(0, 0, Math.max(0, 10 - h), 0), -1);
                x.put(0, 0, (int) (h - above[k]));
                Check.due("what is above is cut, " + widths[k], x.proves(0, 0, Math.max(0, 10 - h), 0), -1);
                x.put(0, 0, (int) (h + above[k] / 2));
                Check.due("the highest bit is not, " + widths[k], x.proves(0, 0, 999, 0), 0);
                x.put(0, 0, (int) (h + above[k] / 4));
                Check.due("nor is the one below, " + widths[k], x.proves(0, 0, 999, 0), 0);
            }
        }
        DebtYear x = new DebtYear();
        x.sheet(0, 16, 2);
        x.put(0, 0, 256 + 10);
        Check.due("256 is no matter of 16 bits", x.proves(0, 0, 999, 0), 0);
        x.sheet(0, 32, 2);
        x.put(0, 0, 65536 + 10);
        Check.due("65536 is no matter of 32 bits", x.proves(0, 0, 999, 0), 0);
    }

    private static void copyFindings() {
        for (int s : NO_SHEET) {
            Twins.keep("from sheet " + s, Check.BEYOND, Lands::rich, x -> x.copy(s, 0, 0, 0, 1));
            Twins.keep("to sheet " + s, Check.BEYOND, Lands::rich, x -> x.copy(0, 0, s, 0, 1));
            Twins.keep("both " + s, Check.BEYOND, Lands::rich, x -> x.copy(s, 0, s, 0, 1));
        }
        Twins.keep("from a missing one", Check.MISSING, Lands::rich, x -> x.copy(3, 0, 0, 0, 1));
        Twins.keep("to a missing one", Check.MISSING, Lands::rich, x -> x.copy(0, 0, 3, 0, 1));
        Twins.keep("both missing", Check.MISSING, Lands::rich, x -> x.copy(3, 0, 3, 0, 0));
        Twins.keep("8 to 16 bits", Check.KIND, Lands::rich, x -> x.copy(0, 0, 1, 0, 1));
        Twins.keep("16 to 8 bits", Check.KIND, Lands::rich, x -> x.copy(1, 0, 0, 0, 1));
        Twins.keep("8 to 16 bits, none", Check.KIND, Lands::rich, x -> x.copy(0, 0, 1, 0, 0));
        // Sheet 0 has 5 numbers, sheet 2 has 3.
        int[][] wrong = {{-1, 0, 1}, {0, -1, 1}, {0, 0, -1}, {-1, 0, 0}, {0, -1, 0}, {-1, -1, -1}, {0, 0, 4}, {0, 0, 5}, {0, 0, 6}, {0, 1, 3},
            {3, 0, 3}, {4, 0, 2}, {5, 0, 1}, {6, 0, 0}, {0, 3, 1}, {0, 4, 0}, {2, 2, 2}, {5, 3, 1}, {Integer.MAX_VALUE, 0, 1},
            {0, Integer.MAX_VALUE, 1}, {0, 0, Integer.MAX_VALUE}, {1, 1, Integer.MAX_VALUE}, {Integer.MAX_VALUE, 0, Integer.MAX_VALUE},
            {Integer.MAX_VALUE, Integer.MAX_VALUE, Integer.MAX_VALUE}, {Integer.MIN_VALUE, 0, 1}, {0, Integer.MIN_VALUE, 1},
            {0, 0, Integer.MIN_VALUE}, {5, 3, Integer.MIN_VALUE}, {Integer.MIN_VALUE, Integer.MIN_VALUE, Integer.MIN_VALUE}};
        for (int[] w : wrong) {
            Twins.keep("from " + w[0] + " to " + w[1] + ", " + w[2], Check.BEYOND, Lands::rich, x -> x.copy(0, w[0], 2, w[1], w[2]));
        }
    }

    private static void copyOrder() {
        Twins.keep("BEYOND ahead of MISSING", Check.BEYOND, Lands::rich, x -> x.copy(3, 0, 4, 0, 0));
        Twins.keep("BEYOND ahead of MISSING", Check.BEYOND, Lands::rich, x -> x.copy(-1, 0, 3, 0, 0));
        Twins.keep("MISSING ahead of KIND and BEYOND", Check.MISSING, Lands::rich, x -> x.copy(3, -1, 1, 0, 0));
        Twins.keep("MISSING ahead of KIND and BEYOND", Check.MISSING, Lands::rich, x -> x.copy(1, 0, 3, 21, 0));
        Twins.keep("MISSING ahead of BEYOND", Check.MISSING, Lands::rich, x -> x.copy(3, 0, 3, 0, -1));
        Twins.keep("KIND ahead of BEYOND: from", Check.KIND, Lands::rich, x -> x.copy(0, -1, 1, 0, 1));
        Twins.keep("KIND ahead of BEYOND: to", Check.KIND, Lands::rich, x -> x.copy(0, 0, 1, -1, 1));
        Twins.keep("KIND ahead of BEYOND: n", Check.KIND, Lands::rich, x -> x.copy(0, 0, 1, 0, -1));
        Twins.keep("KIND ahead of BEYOND: too many", Check.KIND, Lands::rich, x -> x.copy(0, 0, 1, 0, 6));
    }

    private static void copyEdges() {
        int[][] right = {{0, 0, 3}, {2, 0, 3}, {4, 2, 1}, {0, 1, 2}};
        for (int[] r : right) {
            Twins.answer("from " + r[0] + " to " + r[1] + ", " + r[2], r[2], Lands::rich, x -> x.copy(0, r[0], 2, r[1], r[2]));
        }
        int[][] none = {{0, 0}, {5, 3}, {5, 0}, {0, 3}};
        for (int[] r : none) {
            Twins.keep("none from " + r[0] + " to " + r[1], 0, Lands::rich, x -> x.copy(0, r[0], 2, r[1], 0));
        }
        Twins.keep("a sheet to itself", 5, Lands::rich, x -> x.copy(0, 0, 0, 0, 5));
        Twins.keep("a sheet to itself", 20, Lands::rich, x -> x.copy(1, 0, 1, 0, 20));
        Consumer<DebtYear> alike = x -> {
            x.sheet(0, 32, 20);
            x.sheet(3, 32, 20);
            x.put(0, 0, 1 << 30);
            x.put(0, 19, -1);
        };
        DebtYear x = Twins.of(alike);
        Check.due("all twenty", x.copy(0, 0, 3, 0, 20), 20);
        Check.due("the first one", x.proves(0, 0, 999, 3), 0);
        x.put(3, 0, 0);
        Check.due("the last one", x.proves(0, 0, 999, 3), 19);
        Check.due("of where it came from", x.proves(0, 0, 999, 0), 0);
        Check.due("empty ones", x.sheet(1, 8, 0) + x.sheet(2, 8, 0) + x.copy(1, 0, 2, 0, 0), 0);
        Check.due("from an empty one", x.copy(1, 0, 2, 0, 1), Check.BEYOND);
    }

    /** Numbers that come to places that they come from themselves. */
    private static void copyWithinOne() {
        int[] row = {1, 2, 3, 4, 5, 6};
        for (int from = 0; from <= 6; from++) {
            for (int to = 0; to <= 6; to++) {
                for (int n = 0; n <= 7; n++) {
                    DebtYear x = new DebtYear();
                    x.person(0, -1, -1, 1000);
                    x.field(0, 10, false);
                    x.sheet(2, 16, 6);
                    for (int i = 0; i < 6; i++) {
                        x.put(2, i, row[i]);
                    }
                    boolean may = from + n <= 6 && to + n <= 6;
                    Check.due("copy", x.copy(2, from, 2, to, n), may ? n : Check.BEYOND);
                    int[] due = row.clone();
                    for (int i = 0; may && i < n; i++) {
                        due[to + i] = row[from + i];
                    }
                    told(x, due);
                }
            }
        }
    }

    /** Sheet 2 number by number, as harvests of a field that brings as much. */
    private static void told(DebtYear x, int[] due) {
        x.sheet(3, 16, 1);
        int store = 1000;
        for (int i = 0; i < due.length; i++) {
            x.copy(2, i, 3, 0, 1);
            x.years(3);
            store += due[i] - 10;
            Check.due("number " + i, x.personIs(0, 2), store);
        }
    }

    /** All is as the IMAGE has it, which stays. NONE: there is none. */
    private static void imageAndRestore() {
        Twins.keep("none", Check.NONE, Lands::empty, DebtYear::restore);
        Twins.keep("the year of an empty one", 0, x -> x.image(), DebtYear::restore);
        Twins.keep("as it was", 0, Lands::restored, DebtYear::restore);
        Consumer<DebtYear> late = x -> {
            Lands.rich(x);
            Lands.toYear(x, 400);
            x.image();
        };
        Twins.keep("the year 400", 400, late, DebtYear::restore);
        Twins.keep("an image of what it is", 400, late, DebtYear::image);
        DebtYear x = Twins.of(Lands::rich);
        Check.due("restore", x.restore(), 0);
        Check.due("a restored year", x.count(4), 0);
        x.year(0);
        x.year(0);
        Check.due("it stays", x.restore(), 0);
        Check.due("again", x.restore(), 0);
    }

    /** The one before goes. */
    private static void newestImage() {
        DebtYear x = Twins.of(Lands::rich);
        Check.due("image", x.image(), Lands.YEAR);
        x.year(0);
        x.die(1);
        Check.due("the newest", x.restore(), Lands.YEAR);
        Check.due("lives", x.personIs(1, 1), -1);
        Check.due("died ahead of it", x.personIs(0, 1), 1);
        x.year(0);
        Check.due("a newer one", x.image(), Lands.YEAR + 1);
        x.year(0);
        Check.due("the newest", x.restore(), Lands.YEAR + 1);
    }

    /** Each act that changes something is undone: behind restore() nothing differs from a land that was only kept. */
    private static void imageHasAll() {
        undone("person", x -> x.person(0, 3, 4, 77));
        undone("lives", x -> {
            x.lives(1, true, true);
            x.lives(4, false, false);
        });
        undone("fear", x -> x.fear(3, 49));
        undone("die", x -> x.die(2));
        undone("field", x -> x.field(2, 50, true));
        undone("paper", x -> x.paper(3, 203, 40, 90, 2));
        undone("served", x -> x.paper(6, 203, 40, 90, 2));
        undone("word", x -> x.word(Lands.LOAN, 1));
        undone("pay", x -> x.pay(Lands.GIFT, 5));
        undone("annul", x -> x.annul(Lands.SERVED));
        undone("shift", x -> {
            x.shift(0, 3);
            x.shift(1, 3);
        });
        undone("force", x -> x.force(0, 1, 0));
        undone("year", x -> x.year(0));
        undone("a fiftieth year", x -> {
            x.shift(0, 48);
            x.year(30);
        });
        undone("hunger", x -> {
            x.person(0, -1, -1, 0);
            for (int i = 0; i < 9; i++) {
                x.year(0);
            }
        });
        undone("text", x -> {
            x.text(4);
            Check.text(x, 0, "falls 0;back 0;loan 0;");
            Check.text(x, 1, "falls 1;back 1;loan 1;");
            Check.feed(x, "falls 1;");
        });
        undone("many", x -> {
            for (int i = 0; i < 8; i++) {
                x.person(0, i, -1, 9);
                x.field(i, 9, true);
                x.force(3, 0, i);
                x.paper(0, 102, 9, 9, 0);
            }
        });
    }

    private static void undone(String what, Consumer<DebtYear> acts) {
        Consumer<DebtYear> kept = x -> {
            Lands.rich(x);
            x.image();
        };
        Consumer<DebtYear> back = x -> {
            kept.accept(x);
            acts.accept(x);
            Check.due("restore behind " + what, x.restore(), Lands.YEAR);
        };
        Check.due(what + " is seen", Twins.differ(kept, x -> {
            kept.accept(x);
            acts.accept(x);
        }) ? 1 : 0, 1);
        Check.due(what + " is undone", Twins.differ(kept, back) ? 1 : 0, 0);
    }

    /** But sheets, THE TAPE, count(8). */
    private static void imageHasNot() {
        Consumer<DebtYear> acts = x -> {
            x.sheet(0, 16, 4);
            x.sheet(1, 0, 0);
            x.put(2, 0, 9);
            x.sheet(3, 32, 20);
            x.feed(2, Check.bytes("  "));
            x.year(-1);
            x.year(31);
        };
        Consumer<DebtYear> apart = x -> {
            Lands.rich(x);
            acts.accept(x);
            x.image();
        };
        Consumer<DebtYear> restored = x -> {
            Lands.rich(x);
            x.image();
            acts.accept(x);
            x.restore();
        };
        Check.due("they stay as they are", Twins.differ(apart, restored) ? 1 : 0, 0);
        Check.due("findings", Twins.of(restored).count(8), 3);
    }

    /** Up to the last PERSON, FIELD, PAPER, LAW and TEXT. */
    private static void imageOfFullLands() {
        Consumer<DebtYear> kept = x -> {
            Lands.fullOfAll(x);
            x.image();
        };
        Check.due("image", Twins.of(Lands::fullOfAll).image(), Lands.YEAR);
        Twins.keep("restore", Lands.YEAR, kept, DebtYear::restore);
        Consumer<DebtYear> lived = x -> {
            kept.accept(x);
            x.fear(13, 1);
            x.pay(19, 3);
            x.annul(18);
            x.year(30);
            x.die(13);
            x.word(19, 0);
            Check.text(x, 4, "falls 0;back 0;loan 0;");
            x.restore();
        };
        Check.due("all is as it was", Twins.differ(kept, lived) ? 1 : 0, 0);
        DebtYear x = Twins.of(lived);
        Check.due("the last person", x.personIs(13, 2), 43);
        Check.due("the last field", x.fieldIs(7, 2), 12);
        Check.due("the last paper", x.paperIs(19, 8), 1);
        Check.due("the last law", x.law(1, 400), 11);
        Check.due("no more persons", x.person(0, -1, -1, 0), Check.FULL);
        Check.due("no more fields", x.field(0, 1, false), Check.FULL);
        Check.due("no more papers", x.paper(0, 102, 1, 9, 0), Check.FULL);
        Check.due("no more laws", x.force(4, 0, 0), Check.FULL);
    }

    /** PERSONS, FIELDS, PAPERS and LAWS that are made behind a restore have nothing of those that are gone. */
    private static void numbersAnewBehindRestore() {
        Consumer<DebtYear> gone = x -> {
            x.person(0, -1, -1, 60);
            x.image();
            // 1 is in all another one than 1 will be.
            x.person(-9, 0, -1, 0);
            x.lives(1, true, true);
            x.fear(1, 9);
            x.fear(0, 50);
            x.field(1, 50, true);
            x.paper(6, 100, 70, 9, 0);
            x.paper(3, 100, 80, 9, 0);
            x.word(0, 1);
            Check.rule(x, "1", "1", "1");
            x.lives(1, false, true);
            x.year(0);
            x.lives(1, true, true);
            x.annul(0);
            x.die(1);
            Check.due("hungered", x.personIs(1, 6), 10);
            x.restore();
        };
        Consumer<DebtYear> never = x -> {
            x.person(0, -1, -1, 60);
            x.image();
        };
        Check.due("gone", Twins.differ(gone, never) ? 1 : 0, 0);
        Consumer<DebtYear> anew = x -> {
            x.person(0, -1, -1, 40);
            x.field(0, 6, false);
            x.paper(1, 100, 5, 7, 0);
            x.paper(2, 1, 5, 7, 0);
            Check.text(x, 1, "falls stranger;back stranger;loan word;");
            x.force(1, 1, 3);
        };
        Check.due("anew", Twins.differ(gone.andThen(anew), never.andThen(anew)) ? 1 : 0, 0);
        DebtYear x = Twins.of(gone.andThen(anew));
        int[] person = {0, -1, 40, -1, 5, 5, 0, 0};
        for (int what = 0; what < 8; what++) {
            Check.due("person " + what, x.personIs(1, what), person[what]);
        }
        int[] paper = {1, 1, 0, 5, 0, 0, 7, -1, 2, 0};
        for (int what = 0; what < 10; what++) {
            Check.due("paper " + what, x.paperIs(0, what), paper[what]);
        }
        int[] field = {6, 0, 0, 0};
        for (int what = 0; what < 4; what++) {
            Check.due("field " + what, x.fieldIs(0, what), field[what]);
        }
        Check.due("no stranger", x.falls(0, 1, 3), 0);
        Check.due("fear", x.fear(1, 0), 3);
        Check.due("no law of bench 0", x.law(0, 400), Check.NONE);
        Check.due("text 0 was never told", x.force(0, 0, 0), Check.NONE);
    }

    /** Who is gone by a restore lends nothing, inherits nothing; what is gone brings nothing, is not due and does not fall. */
    private static void whatIsGoneDoesNothing() {
        DebtYear x = new DebtYear();
        x.person(0, -1, -1, 5);
        x.image();
        x.person(0, 0, -1, 5000);
        x.field(0, 10, false);
        x.paper(1, 1, 3, 0, 0);
        Check.rule(x, "1", "1", "1");
        x.restore();
        x.shift(0, 49);
        Check.due("nobody lends", x.year(30), 5);
        Check.due("nothing is due", x.count(2), 0);
        Check.due("nothing comes", x.count(5), 0);
        Check.due("no law", x.law(0, 400), Check.NONE);
        x.die(0);
        Check.due("no heirs", x.heirs(0), 0);
        Check.due("no such heir", x.share(0, 1), Check.BEYOND);
        Check.due("no such parent", x.person(0, 1, -1, 0), Check.BEYOND);
    }

    private static void countFindings() {
        int[] wrong = {-1, 9, Integer.MIN_VALUE, Integer.MAX_VALUE};
        for (int what : wrong) {
            Twins.keep("count(" + what + ")", Check.BEYOND, Lands::rich, x -> x.count(what));
        }
        DebtYear x = Twins.of(Lands::rich);
        int[] due = {4, 4, 9, 6, 1};
        for (int what = 0; what < due.length; what++) {
            int w = what;
            Twins.keep("count(" + what + ")", due[what], Lands::rich, y -> y.count(w));
        }
        int stores = 0;
        for (int p = 0; p < Lands.PERSONS; p++) {
            stores += x.personIs(p, 2);
        }
        Twins.keep("measures in all stores", stores, Lands::rich, y -> y.count(5));
        Twins.keep("eaten", 60, Lands::rich, y -> y.count(6));
        // 0 had 490 less 10 and nothing of its field, which 1 held; 5 had 30 and 118, less 10.
        Twins.keep("lost", 480 + 138, Lands::rich, y -> y.count(7));
        Twins.keep("findings", 1, Lands::rich, y -> y.count(8));
    }

    /** How many acts answered a finding ever (this one, too, if it does). */
    private static void countsOfFindings() {
        DebtYear x = new DebtYear();
        for (int n = 0; n < 100; n++) {
            Check.due("count(8)", x.count(8), n);
            Check.due("count(9)", x.count(9), Check.BEYOND);
        }
        Check.due("-1 of text is none", Check.text(x, 0, "falls 1;back 1;loan 1;"), -1);
        Check.due("a fault is none", x.text(0), 0);
        x.person(0, -1, -1, 5);
        Check.due("-1 is none", x.personIs(0, 1), -1);
        Check.due("-1 is none", x.personIs(0, 3), -1);
        Check.due("a year without harvests", x.year(0), 5);
        Check.due("the same", x.count(8), 100);
    }

    /** 0 PERSONS that are not DEAD .. 7 lost ones: each by one more and one less. */
    private static void counts() {
        DebtYear x = new DebtYear();
        for (int i = 0; i < 14; i++) {
            Check.due("persons", x.count(0), i);
            x.person(0, -1, -1, 9999);
            Check.due("stores", x.count(5), 9999 * (i + 1));
        }
        for (int i = 0; i < 8; i++) {
            Check.due("fields", x.count(1), i);
            x.field(0, 99, false);
        }
        for (int i = 0; i < 20; i++) {
            Check.due("papers", x.count(2), i);
            Check.due("open", x.count(3), i);
            x.paper(1, 1, 9, 400, 0);
        }
        for (int i = 0; i < 20; i++) {
            x.annul(i);
            Check.due("papers", x.count(2), 20);
            Check.due("open", x.count(3), 19 - i);
        }
        x.year(30);
        Check.due("eaten", x.count(6), 140);
        Check.due("lost", x.count(7), 8 * 297);
        Check.due("stores", x.count(5), 14 * 9989);
        for (int i = 0; i < 14; i++) {
            x.die(i);
            Check.due("persons", x.count(0), 13 - i);
            Check.due("lost", x.count(7), 8 * 297 + 9989 * (i + 1));
            Check.due("stores", x.count(5), 9989 * (13 - i));
        }
        Check.due("nobody eats", x.year(30), 0);
        Check.due("eaten", x.count(6), 140);
        Check.due("lost", x.count(7), 16 * 297 + 14 * 9989);
    }

    /** An object is used for at most 512 calls: the last one of them answers as the others do. */
    private static void fiveHundredTwelveCalls() {
        DebtYear asks = new DebtYear();
        for (int call = 1; call <= 511; call++) {
            Check.due("call " + call, asks.count(9), Check.BEYOND);
        }
        Check.due("call 512", asks.count(8), 511);
        DebtYear feeds = new DebtYear();
        for (int call = 1; call <= 510; call += 2) {
            Check.due("call " + call, feeds.feed(1 + call % 8, -1L), 1 + call % 8);
            Check.due("a fault", feeds.text(call % 5), 0);
        }
        Check.due("call 511", feeds.feed(8, 0), 8);
        Check.due("call 512", feeds.text(0), 0);
        DebtYear years = Lands.in(0);
        years.person(0, -1, -1, 9999);
        for (int year = 1; year <= 400; year++) {
            Check.due("year", years.year(0), 0);
        }
        Check.due("four hundred years", years.personIs(0, 2), 5999);
        Check.due("eaten", years.count(6), 4000);
    }
}
