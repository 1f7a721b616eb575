import java.util.function.Consumer;

/** The boundaries and findings of BENCHES and LAWS (Terms 3 and 5) and promises 17, 18 and 21 to 27. */
public final class BenchesLawsEdgesTest {
    private static final int[] NO_BENCH = {-1, 2, Integer.MIN_VALUE, Integer.MAX_VALUE};
    private static final int[] NO_YEAR = {-1, 401, Integer.MIN_VALUE, Integer.MAX_VALUE};
    private static final int[] NO_TEXT = {-1, 5, Integer.MIN_VALUE, Integer.MAX_VALUE};
    private static final int[] NO_PAPER = {-1, Lands.PAPERS, 19, 20, Integer.MIN_VALUE, Integer.MAX_VALUE};
    private static final int[] NO_FIELD = {-1, Lands.FIELDS, 7, 8, Integer.MIN_VALUE, Integer.MAX_VALUE};

    /** falls, truly and dress, which take the same arguments. */
    private interface Judge {
        int of(DebtYear x, int paper, int bench, int year);
    }

    public static void main(String[] args) {
        shift();
        left();
        leftGoesRound();
        forceFindings();
        noneAndFullLaws();
        twelveLaws();
        lawFindings();
        inForceFromItsYear();
        latestLaw();
        lawHasTheTextAsItWasThen();
        judged(DebtYear::falls);
        judged(DebtYear::truly);
        judged(DebtYear::dress);
        judgements();
        surelyMaybeNot();
        numbersNotZero();
        namesAtTheirEdges();
        strangers();
        closedPapersAreJudged();
        backFindings();
        onlyHeir();
        namesOfFields();
        dress();
        price();
        Check.end();
    }

    /** Its SHIFT (0 to 49; 0 at first). */
    private static void shift() {
        for (int bench : NO_BENCH) {
            Twins.keep("shift of bench " + bench, Check.BEYOND, Lands::rich, x -> x.shift(bench, 1));
        }
        int[] wrong = {-1, 50, Integer.MIN_VALUE, Integer.MAX_VALUE};
        for (int bench = 0; bench < 2; bench++) {
            int b = bench;
            for (int v : wrong) {
                Twins.keep("shift " + v, Check.BEYOND, Lands::rich, x -> x.shift(b, v));
            }
            DebtYear x = new DebtYear();
            Check.due("at first", x.shift(b, 49), 0);
            Check.due("49", x.shift(b, 50), Check.BEYOND);
            Check.due("49", x.shift(b, -1), Check.BEYOND);
            Check.due("49", x.shift(b, 0), 49);
            Check.due("0", x.shift(b, 7), 0);
            Check.due("the other one", x.shift(1 - b, 0), 0);
        }
        Twins.keep("as it is", 49, Lands::rich, x -> x.shift(0, 49));
        Twins.keep("as it is", 12, Lands::rich, x -> x.shift(1, 12));
    }

    private static void left() {
        for (int bench : NO_BENCH) {
            Twins.keep("left of bench " + bench, Check.BEYOND, Lands::rich, x -> x.left(bench, 1));
        }
        for (int year : NO_YEAR) {
            Twins.keep("left in " + year, Check.BEYOND, Lands::rich, x -> x.left(0, year));
            Twins.keep("left in " + year, Check.BEYOND, Lands::rich, x -> x.left(1, year));
        }
        Twins.keep("left in 0", 1, Lands::rich, x -> x.left(0, 0));
        Twins.keep("left in 400", 1, Lands::rich, x -> x.left(0, 400));
        Twins.keep("left in 0", 38, Lands::rich, x -> x.left(1, 0));
        Twins.keep("left in 400", 38, Lands::rich, x -> x.left(1, 400));
    }

    /** COUNT: modulo 50; LEFT: 50 less COUNT, so 50 in the fiftieth year, and 1 in the one ahead of it. */
    private static void leftGoesRound() {
        int[][] due = {{0, 0, 50}, {0, 1, 49}, {0, 49, 1}, {0, 50, 50}, {0, 51, 49}, {0, 99, 1}, {0, 100, 50}, {0, 399, 1},
            {0, 400, 50}, {1, 0, 49}, {1, 48, 1}, {1, 49, 50}, {1, 50, 49}, {1, 400, 49}, {49, 0, 1}, {49, 1, 50}, {49, 2, 49},
            {49, 50, 1}, {49, 51, 50}, {49, 400, 1}, {25, 24, 1}, {25, 25, 50}};
        for (int[] d : due) {
            for (int bench = 0; bench < 2; bench++) {
                DebtYear x = new DebtYear();
                x.shift(bench, d[0]);
                Check.due("shift " + d[0] + ", year " + d[1], x.left(bench, d[1]), d[2]);
                Check.due("the other bench", x.left(1 - bench, d[1]), 50 - d[1] % 50);
            }
        }
    }

    private static void forceFindings() {
        for (int t : NO_TEXT) {
            Twins.keep("force " + t, Check.BEYOND, Lands::rich, x -> x.force(t, 0, 0));
            Twins.keep("BEYOND ahead of FULL", Check.BEYOND, Lands::fullOfLaws, x -> x.force(t, 0, 0));
        }
        for (int bench : NO_BENCH) {
            Twins.keep("bench " + bench, Check.BEYOND, Lands::rich, x -> x.force(0, bench, 0));
            Twins.keep("BEYOND ahead of NONE", Check.BEYOND, Lands::rich, x -> x.force(1, bench, 0));
            Twins.keep("BEYOND ahead of FULL", Check.BEYOND, Lands::fullOfLaws, x -> x.force(0, bench, 0));
            Twins.keep("BEYOND ahead of NONE and FULL", Check.BEYOND, Lands::fullOfLaws, x -> x.force(1, bench, 0));
        }
        for (int year : NO_YEAR) {
            Twins.keep("year " + year, Check.BEYOND, Lands::rich, x -> x.force(0, 0, year));
            Twins.keep("BEYOND ahead of NONE", Check.BEYOND, Lands::rich, x -> x.force(1, 0, year));
            Twins.keep("BEYOND ahead of FULL", Check.BEYOND, Lands::fullOfLaws, x -> x.force(0, 0, year));
            Twins.keep("BEYOND ahead of NONE and FULL", Check.BEYOND, Lands::fullOfLaws, x -> x.force(1, 0, year));
        }
    }

    private static void noneAndFullLaws() {
        int[] untold = {1, 2, 4};
        for (int t : untold) {
            Twins.keep("never told", Check.NONE, Lands::rich, x -> x.force(t, 0, 0));
            Twins.keep("never told", Check.NONE, Lands::rich, x -> x.force(t, 1, 400));
            Twins.keep("NONE ahead of FULL", Check.NONE, Lands::fullOfLaws, x -> x.force(t, 0, 0));
        }
        Twins.keep("full", Check.FULL, Lands::fullOfLaws, x -> x.force(0, 0, 0));
        Twins.keep("full", Check.FULL, Lands::fullOfLaws, x -> x.force(3, 1, 400));
    }

    /** LAWS (at most 12), of both BENCHES together. */
    private static void twelveLaws() {
        DebtYear x = new DebtYear();
        Check.text(x, 4, "falls 1;back 0;loan 0;");
        for (int i = 0; i < 12; i++) {
            Check.due("law " + i, x.force(4, i % 2, i == 11 ? 400 : 0), i);
        }
        Check.due("a thirteenth", x.force(4, 0, 0), Check.FULL);
        Check.due("a thirteenth", x.force(4, 1, 0), Check.FULL);
        Check.due("the latest of 0", x.law(0, 0), 10);
        Check.due("the latest of 1", x.law(1, 400), 11);
        Check.due("the latest of 1", x.law(1, 399), 9);
    }

    private static void lawFindings() {
        for (int bench : NO_BENCH) {
            Twins.keep("bench " + bench, Check.BEYOND, Lands::rich, x -> x.law(bench, 5));
            Twins.keep("bench " + bench, Check.BEYOND, Lands::empty, x -> x.law(bench, 5));
        }
        for (int year : NO_YEAR) {
            Twins.keep("year " + year, Check.BEYOND, Lands::rich, x -> x.law(0, year));
            Twins.keep("BEYOND ahead of NONE", Check.BEYOND, Lands::empty, x -> x.law(0, year));
        }
        Twins.keep("none", Check.NONE, Lands::rich, x -> x.law(1, 0));
        Twins.keep("none", Check.NONE, Lands::rich, x -> x.law(1, 1));
        Twins.keep("from 2", 1, Lands::rich, x -> x.law(1, 2));
        Twins.keep("from 2", 1, Lands::rich, x -> x.law(1, 400));
        Twins.keep("from 0", 0, Lands::rich, x -> x.law(0, 0));
        Twins.keep("from 0", 0, Lands::rich, x -> x.law(0, 29));
        Twins.keep("from 30", 2, Lands::rich, x -> x.law(0, 30));
    }

    /** In force from that year or an earlier one. */
    private static void inForceFromItsYear() {
        int[] from = {0, 1, 50, 399, 400};
        for (int year : from) {
            DebtYear x = new DebtYear();
            x.person(0, -1, -1, 0);
            x.person(0, -1, -1, 0);
            x.paper(1, 1, 5, 9, 0);
            x.field(0, 1, false);
            x.paper(3, 1, 5, 9, 0);
            Check.text(x, 0, "falls 1;back 1;loan 1;");
            Check.due("force", x.force(0, 1, year), 0);
            for (int asked : new int[] {0, year - 1, year, year + 1, 400}) {
                if (asked >= 0 && asked <= 400) {
                    boolean is = asked >= year;
                    Check.due("law from " + year + " in " + asked, x.law(1, asked), is ? 0 : Check.NONE);
                    Check.due("falls", x.falls(0, 1, asked), is ? 2 : 0);
                    Check.due("truly", x.truly(0, 1, asked), is ? 2 : 0);
                    Check.due("back", x.back(0, 1, asked), is ? 1 : 0);
                    Check.due("dress", x.dress(0, 1, asked), is ? 0 : 127);
                    Check.due("the other bench", x.law(0, asked), Check.NONE);
                    Check.due("the other bench", x.falls(0, 0, asked), 0);
                }
            }
        }
    }

    /** The latest LAW made for it: an older one from a later year does not come ahead of it. */
    private static void latestLaw() {
        DebtYear x = new DebtYear();
        Check.text(x, 0, "falls 1;back 0;loan 0;");
        int[] from = {100, 50, 50, 200};
        for (int year : from) {
            x.force(0, 0, year);
        }
        Check.due("in 49", x.law(0, 49), Check.NONE);
        Check.due("in 50: the latest of two", x.law(0, 50), 2);
        Check.due("in 100: made ahead of it", x.law(0, 100), 2);
        Check.due("in 199", x.law(0, 199), 2);
        Check.due("in 200", x.law(0, 200), 3);
        x.force(0, 1, 0);
        Check.due("a law of bench 1 is none of bench 0", x.law(0, 400), 3);
        Check.due("of bench 1", x.law(1, 0), 4);
    }

    /** A LAW puts a TEXT (as it is then) in force. */
    private static void lawHasTheTextAsItWasThen() {
        DebtYear x = new DebtYear();
        x.person(0, -1, -1, 0);
        x.person(0, -1, -1, 0);
        x.paper(1, 1, 5, 9, 0);
        Check.text(x, 0, "falls 1;back 0;loan 0;");
        x.force(0, 0, 0);
        Check.text(x, 0, "falls 0;back 0;loan 1;");
        Check.due("as it was", x.falls(0, 0, 0), 2);
        Check.due("as it was", x.truly(0, 0, 0), 0);
        x.force(0, 0, 10);
        Check.due("as it was", x.falls(0, 0, 9), 2);
        Check.due("as it is", x.falls(0, 0, 10), 0);
        Check.due("as it is", x.truly(0, 0, 10), 2);
    }

    /** BEYOND (the year 0 to 400, not ahead of that since which it is). */
    private static void judged(Judge judge) {
        for (int p : NO_PAPER) {
            Twins.keep("paper " + p, Check.BEYOND, Lands::rich, x -> judge.of(x, p, 0, 9));
        }
        for (int bench : NO_BENCH) {
            Twins.keep("bench " + bench, Check.BEYOND, Lands::rich, x -> judge.of(x, 0, bench, 9));
        }
        for (int year : NO_YEAR) {
            Twins.keep("year " + year, Check.BEYOND, Lands::rich, x -> judge.of(x, 0, 0, year));
            Twins.keep("year " + year, Check.BEYOND, Lands::rich, x -> judge.of(x, Lands.LATE, 1, year));
        }
        Twins.keep("ahead of since", Check.BEYOND, Lands::rich, x -> judge.of(x, Lands.LATE, 0, 0));
        Twins.keep("ahead of since", Check.BEYOND, Lands::rich, x -> judge.of(x, Lands.LATE, 1, 0));
        Consumer<DebtYear> made399 = x -> made(x, 399);
        Consumer<DebtYear> made400 = x -> made(x, 400);
        Twins.keep("in 398", Check.BEYOND, made399, x -> judge.of(x, 0, 0, 398));
        int byNoLaw = judge.of(Twins.of(Lands::rich), Lands.LATE, 1, 1);
        Twins.keep("in 399", byNoLaw, made399, x -> judge.of(x, 0, 0, 399));
        Twins.keep("in 400", byNoLaw, made399, x -> judge.of(x, 0, 0, 400));
        Twins.keep("in 399", Check.BEYOND, made400, x -> judge.of(x, 0, 0, 399));
        Twins.keep("in 400", byNoLaw, made400, x -> judge.of(x, 0, 0, 400));
    }

    /** A PAPER 0 that is since a year, without a LAW. */
    private static void made(DebtYear x, int since) {
        Lands.toYear(x, since);
        x.person(0, -1, -1, 0);
        x.person(0, -1, -1, 0);
        x.paper(1, 1, 5, 400, 0);
    }

    private static void judgements() {
        Twins.keep("falls maybe", 1, Lands::rich, x -> x.falls(Lands.LATE, 0, 1));
        Twins.keep("falls surely", 2, Lands::rich, x -> x.falls(Lands.LATE, 0, 400));
        Twins.keep("falls by no law", 0, Lands::rich, x -> x.falls(Lands.LATE, 1, 1));
        Twins.keep("falls not", 0, Lands::rich, x -> x.falls(Lands.LATE, 1, 2));
        Twins.keep("falls in 0", 2, Lands::rich, x -> x.falls(Lands.FALLEN, 0, 0));
        Twins.keep("truly", 2, Lands::rich, x -> x.truly(Lands.LATE, 0, 1));
        Twins.keep("truly not", 0, Lands::rich, x -> x.truly(Lands.LATE, 0, 400));
        Twins.keep("truly not", 0, Lands::rich, x -> x.truly(Lands.SALE, 0, 0));
        Twins.keep("truly by bench 1", 2, Lands::rich, x -> x.truly(Lands.SALE, 1, 2));
        Twins.keep("dress", 0, Lands::rich, x -> x.dress(Lands.LATE, 0, 1));
        Twins.keep("dress by no law", 127, Lands::rich, x -> x.dress(Lands.LATE, 1, 1));
        Twins.keep("dress of a known word", 126, Lands::rich, x -> x.dress(Lands.PLEDGE, 0, 0));
        Twins.keep("back", 1, Lands::rich, x -> x.back(0, 0, 0));
        Twins.keep("back in walls", 0, Lands::rich, x -> x.back(1, 0, 0));
        Twins.keep("back to itself", 0, Lands::rich, x -> x.back(2, 0, 0));
        Twins.keep("back by bench 1", 1, Lands::rich, x -> x.back(1, 1, 400));
        Twins.keep("back of a worth of 10", 0, Lands::rich, x -> x.back(0, 0, 400));
    }

    /** By its WORD; by an unknown one: SURELY (2) if by both, MAYBE (1) if by one, NOT (0). */
    private static void surelyMaybeNot() {
        String[] clauses = {"0", "word", "not word", "1", "word=0", "word=1", "word=2", "word<2", "0-word", "word-1"};
        int[][] due = {{0, 0, 0}, {0, 2, 1}, {2, 0, 1}, {2, 2, 2}, {2, 0, 1}, {0, 2, 1}, {0, 0, 0}, {2, 2, 2}, {0, 2, 1}, {2, 0, 1}};
        for (int k = 0; k < 2 * clauses.length; k++) {
            // The other bench has a law that says otherwise.
            String clause = clauses[k / 2];
            int bench = k % 2;
            DebtYear x = new DebtYear();
            x.person(0, -1, -1, 0);
            x.person(0, -1, -1, 0);
            x.paper(1, 1, 5, 9, 0);
            Check.text(x, 0, "falls " + clause + ";back 0;loan " + clause + ";");
            Check.text(x, 1, "falls not(" + clause + ");back 0;loan not(" + clause + ");");
            x.force(0, bench, 0);
            x.force(1, 1 - bench, 0);
            for (int word = 0; word < 3; word++) {
                x.word(0, word);
                int want = due[k / 2][word];
                Check.due("falls " + clause + " by " + word, x.falls(0, bench, 0), want);
                Check.due("loan " + clause + " by " + word, x.truly(0, bench, 0), want);
                Check.due("dress " + clause + " by " + word, x.dress(0, bench, 0), want == 0 ? 127 : 0);
                Check.due("falls otherwise", x.falls(0, 1 - bench, 0), 2 - want);
                Check.due("loan otherwise", x.truly(0, 1 - bench, 0), 2 - want);
            }
        }
    }

    /** What is not 0 is true; of or, and, not, <, = 1 or 0. */
    private static void numbersNotZero() {
        String[] holds = {"1", "2", "0-1", "9999", "1 or 0", "0 or 1", "1 and 1", "(3 or 5)=1", "(3 and 5)=1", "(not 0)=1",
            "(1<2)=1", "(2=2)=1", "1<2", "0-1<0", "2=2", "0=0", "not 0", "not 1-1", "not 2<2", "not 3<2", "not 1=2", "(not 7)=0",
            "(0 or 0)=0", "(1 and 0)=0", "(2<1)=0", "(0-5) and (0-6)", "not not 3", "1 or 0 and 0", "0 and 0 or 1",
            "not 1 or 1", "not 0 and 1", "7-2-4=1", "7-(2-4)=9", "1+2<2+2", "2+2=1+3", "1<2+0", "not 1+1=3"};
        String[] fails = {"0", "1-1", "0 or 0", "1 and 0", "0 and 1", "not 1", "not 2", "not 0-1", "2<2", "3<2", "1=2", "0-1=1",
            "0<0", "(1 or 1) and 0", "not 0 and 0", "not (0 and 1) and 0", "not 1<2", "not 2=2", "7-2-4=9", "1+1<2", "not not 0"};
        for (String e : holds) {
            comes(e, true);
        }
        for (String e : fails) {
            comes(e, false);
        }
    }

    private static void comes(String e, boolean want) {
        DebtYear x = new DebtYear();
        x.person(0, -1, -1, 0);
        x.person(0, -1, -1, 0);
        x.field(0, 1, false);
        x.paper(3, 1, 5, 9, 0);
        Check.rule(x, e, e, e);
        Check.due("falls " + e, x.falls(0, 0, 0), want ? 2 : 0);
        Check.due("loan " + e, x.truly(0, 0, 0), want ? 2 : 0);
        Check.due("back " + e, x.back(0, 0, 0), want ? 1 : 0);
    }

    private static void namesAtTheirEdges() {
        DebtYear x = new DebtYear();
        x.person(0, -1, -1, 9999);
        x.person(0, -1, -1, 0);
        x.field(0, 1, false);
        x.field(0, 99, true);
        x.paper(1, 1, 9999, 400, 0);
        x.paper(2, 1, 1, 0, 0);
        x.paper(2, 1, 2, 0, 1);
        x.shift(1, 49);
        is(x, "kind=1 and sum=9999 and owed=9999 and paid=0 and term=400 and age=0", 0, 0, 0);
        is(x, "age=400 and left=50 and worth=0 and walls=0", 0, 0, 400);
        is(x, "age=1 and left=49", 0, 0, 1);
        is(x, "age=0 and left=1", 0, 1, 0);
        is(x, "age=1 and left=50", 0, 1, 1);
        is(x, "worth=1 and walls=0 and term=0 and kind=2 and sum=1", 1, 0, 0);
        is(x, "worth=99 and walls=1 and term=0 and age=400", 2, 0, 400);
        x.pay(0, 9998);
        is(x, "sum=9999 and owed=1 and paid=9998", 0, 0, 0);
        x.pay(0, 1);
        is(x, "sum=9999 and owed=0 and paid=9999", 0, 0, 0);
        x.paper(3, 1, 3, 0, 1);
        is(x, "worth=99 and walls=1 and kind=3", 3, 0, 0);
        Check.due("another one holds it now", x.fieldIs(1, 2), 1);
        is(x, "worth=99 and walls=1 and kind=2", 2, 0, 0);
    }

    /** The LAW is taken back, as there are 12 at most. */
    private static void is(DebtYear x, String e, int paper, int bench, int year) {
        x.image();
        Check.due("text", Check.text(x, 0, "falls " + e + ";back 0;loan not(" + e + ");"), -1);
        x.force(0, bench, 0);
        Check.due(e, x.falls(paper, bench, year), 2);
        Check.due("not: " + e, x.truly(paper, bench, year), 0);
        x.restore();
    }

    /** stranger (1 if BY or TO is one). */
    private static void strangers() {
        for (int who = 0; who < 8; who++) {
            DebtYear x = new DebtYear();
            for (int p = 0; p < 3; p++) {
                x.person(0, -1, -1, 0);
                x.lives(p, (who >> p & 1) == 1, (who >> p & 1) == 0);
            }
            x.paper(1, 1, 5, 9, 0);
            Check.rule(x, "stranger", "0", "stranger=1");
            boolean is = (who & 3) != 0;
            Check.due("strangers " + who, x.falls(0, 0, 0), is ? 2 : 0);
            Check.due("1, not 2", x.truly(0, 0, 0), is ? 2 : 0);
        }
    }

    private static void closedPapersAreJudged() {
        int[] closed = {Lands.FALLEN, Lands.VOID, Lands.PAID};
        for (int p : closed) {
            Twins.keep("by law 2 in 400", 2, Lands::rich, x -> x.falls(p, 0, 400));
            Twins.keep("dress", 0, Lands::rich, x -> x.dress(p, 0, 400));
        }
    }

    private static void backFindings() {
        for (int f : NO_FIELD) {
            Twins.keep("field " + f, Check.BEYOND, Lands::rich, x -> x.back(f, 0, 9));
        }
        for (int bench : NO_BENCH) {
            Twins.keep("bench " + bench, Check.BEYOND, Lands::rich, x -> x.back(0, bench, 9));
        }
        for (int year : NO_YEAR) {
            Twins.keep("year " + year, Check.BEYOND, Lands::rich, x -> x.back(0, 0, year));
        }
        Twins.keep("in 0", 0, Lands::rich, x -> x.back(3, 0, 0));
        Twins.keep("in 400", 0, Lands::rich, x -> x.back(3, 1, 400));
    }

    /** If back is not 0, and its HOLDER is not the only HEIR of its ROOT. */
    private static void onlyHeir() {
        DebtYear x = new DebtYear();
        for (int p = 0; p < 5; p++) {
            x.person(0, p == 1 || p == 2 ? 0 : p == 3 ? 1 : -1, -1, 0);
        }
        x.field(0, 1, false);
        Check.rule(x, "0", "1", "0");
        Check.due("the root lives and holds it", x.back(0, 0, 0), 0);
        x.paper(3, 4, 5, 9, 0);
        Check.due("another one holds it", x.back(0, 0, 0), 1);
        x.paper(3, 401, 5, 9, 0);
        Check.due("a child of a living root holds it", x.back(0, 0, 0), 1);
        x.die(0);
        Check.due("one of two heirs holds it", x.back(0, 0, 0), 1);
        x.die(2);
        Check.due("the only heir holds it", x.back(0, 0, 0), 0);
        x.die(1);
        Check.due("a dead one holds it, its child is the heir", x.back(0, 0, 0), 1);
        x.die(3);
        Check.due("there are no heirs", x.back(0, 0, 0), 1);
        Check.rule(x, "1", "0", "1");
        Check.due("back is 0", x.back(0, 0, 0), 0);
    }

    /** For a FIELD (back): kind, age, owed, paid, sum, word, term 0; left, worth, walls of it; stranger 1 if its HOLDER is one. */
    private static void namesOfFields() {
        String[] holds = {"kind=0", "age=0", "owed=0", "paid=0", "sum=0", "word=0", "term=0", "left=50", "worth=99", "walls=1", "stranger=1"};
        for (String e : holds) {
            DebtYear x = new DebtYear();
            x.person(0, -1, -1, 50);
            x.person(0, -1, -1, 50);
            x.lives(1, true, false);
            x.field(0, 99, true);
            x.paper(3, 1, 7, 9, 0);
            x.word(0, 1);
            x.pay(0, 2);
            Check.text(x, 0, "falls 0;back " + e + ";loan 0;");
            x.force(0, 0, 0);
            Check.due(e, x.back(0, 0, 400), 1);
            Check.text(x, 0, "falls word;back not " + e + ";loan 0;");
            x.force(0, 0, 0);
            Check.due("not " + e, x.back(0, 0, 400), 0);
            Check.due("a paper's names", x.falls(0, 0, 400), 2);
            Check.due("a field has nothing of them: not " + e, x.back(0, 0, 400), 0);
        }
    }

    /** Kinds, as bits, of which a PAPER with all else as it is would not FALL. */
    private static void dress() {
        for (int kind = 0; kind < 7; kind++) {
            DebtYear x = new DebtYear();
            x.person(0, -1, -1, 0);
            x.person(0, -1, -1, 0);
            x.field(0, 30, true);
            x.paper(kind, 1, 5, 9, 0);
            boolean field = kind >= 2 && kind <= 4;
            for (int k = 0; k < 7; k++) {
                Check.text(x, 0, "falls kind=" + k + ";back 0;loan 0;");
                x.force(0, 0, 0);
                Check.due("kind " + k + " falls", x.dress(0, 0, 0), 127 - (1 << k));
            }
            Check.text(x, 0, "falls worth=30 and walls and sum=5 and term=9;back 0;loan 0;");
            x.force(0, 0, 0);
            Check.due("its field stays, whatever the kind", x.dress(0, 0, 0), field ? 0 : 127);
            Check.due("it is as it was", x.paperIs(0, 0), kind);
        }
    }

    /** PRICE: WORTH times LEFT. */
    private static void price() {
        for (int f : NO_FIELD) {
            Twins.keep("field " + f, Check.BEYOND, Lands::rich, x -> x.price(f, 0));
        }
        for (int bench : NO_BENCH) {
            Twins.keep("bench " + bench, Check.BEYOND, Lands::rich, x -> x.price(0, bench));
        }
        Twins.keep("50 left", 500, Lands::rich, x -> x.price(0, 0));
        Twins.keep("the most", 4950, Lands::rich, x -> x.price(3, 0));
        Twins.keep("37 left", 99 * 37, Lands::rich, x -> x.price(3, 1));
        DebtYear x = new DebtYear();
        x.person(0, -1, -1, 0);
        x.field(0, 1, false);
        x.shift(0, 49);
        Check.due("the least", x.price(0, 0), 1);
        Check.due("50 left", x.price(0, 1), 50);
        x.year(0);
        Check.due("of THE YEAR", x.price(0, 0), 50);
        Check.due("of THE YEAR", x.price(0, 1), 49);
    }
}
