/** Promises 17 to 27. */
public final class BenchesLawsTest {
    public static void main(String[] args) {
        shiftAndLeft();
        feed();
        rightTexts();
        faults();
        nesting();
        tapeAndTexts();
        force();
        law();
        operators();
        namesOfPapers();
        namesOfFields();
        falls();
        truly();
        back();
        dress();
        price();
        Check.end();
    }

    private static void shiftAndLeft() {
        DebtYear x = new DebtYear();
        Check.due("at first", x.shift(0, 49), 0);
        Check.due("then", x.shift(0, 10), 49);
        Check.due("the other bench", x.shift(1, 0), 0);
        Check.due("50", x.shift(0, 50), Check.BEYOND);
        Check.due("-1", x.shift(0, -1), Check.BEYOND);
        Check.due("bench 2", x.shift(2, 0), Check.BEYOND);
        Check.due("bench -1", x.shift(-1, 0), Check.BEYOND);
        Check.due("left(0, 0)", x.left(0, 0), 40);
        Check.due("left(0, 39)", x.left(0, 39), 1);
        Check.due("left(0, 40)", x.left(0, 40), 50);
        Check.due("left(1, 0)", x.left(1, 0), 50);
        Check.due("left(1, 49)", x.left(1, 49), 1);
        Check.due("left(1, 400)", x.left(1, 400), 50);
        Check.due("year 401", x.left(0, 401), Check.BEYOND);
        Check.due("year -1", x.left(0, -1), Check.BEYOND);
        Check.due("bench 2", x.left(2, 0), Check.BEYOND);
        Check.due("bench -1", x.left(-1, 0), Check.BEYOND);
    }

    private static void feed() {
        DebtYear x = new DebtYear();
        Check.due("n 0", x.feed(0, 0), Check.BEYOND);
        Check.due("n 9", x.feed(9, 0), Check.BEYOND);
        Check.due("n -1", x.feed(-1, 0), Check.BEYOND);
        for (int i = 1; i <= 24; i++) {
            Check.due("feed", x.feed(8, -1L), 8 * i);
        }
        Check.due("feed", x.feed(1, 0), 193);
        Check.due("full", x.feed(8, 0), Check.FULL);
        Check.due("a finding feeds nothing", x.feed(7, 0), 200);
        Check.due("full", x.feed(1, 0), Check.FULL);
        Check.due("BEYOND ahead of FULL", x.feed(9, 0), Check.BEYOND);
        Check.due("a byte that is none", x.text(0), 0);

        DebtYear y = new DebtYear();
        y.feed(5, Check.bytes("fallsXXX"));
        y.feed(8, Check.bytes(" 1;back "));
        y.feed(8, Check.bytes("1;loan 1"));
        y.feed(1, Check.bytes(";zzzzzzz"));
        Check.due("only the lowest bytes", y.text(0), -1);
    }

    private static void rightTexts() {
        right("falls 1;back 1;loan 1;");
        right("falls1;back1;loan1;");
        right("   falls   1  ;  back 1;loan 1;    ");
        right("falls(1);back(1);loan(1);");
        right("falls 9999;back 0000;loan 1;");
        right("falls kind+age-left+owed-paid+sum;back worth<word;loan stranger or walls and term;");
        right("falls not 1<2 and not not 3=4 or 5;back not(1 or 2)and 3;loan 1+2<3+4;");
        right("falls (1<2)<(3=4);back (not 1)+2;loan (1 or 2)-(3 and 4);");
    }

    private static void right(String text) {
        DebtYear x = new DebtYear();
        Check.due("text '" + text + "'", Check.text(x, 0, text), -1);
        Check.due("the text is told", x.force(0, 0, 0), 0);
    }

    private static void faults() {
        fault("", 0);
        fault("   ", 3);
        fault("falls", 5);
        fault("falls ", 6);
        fault("falls 1", 7);
        fault("falls 1;", 8);
        fault("falls 1;back 1;loan 1", 21);
        fault("falls 1;back 1;loan 1 ", 22);
        fault("back 1;falls 1;loan 1;", 0);
        fault("falls 1;loan 1;back 1;", 8);
        fault("falls 1;back 1;loan 1;.", 22);
        fault("falls 1;back 1;loan 1;  1", 24);
        fault("falls 1;back 1;loan 1;falls 1;", 22);
        fault("falls ;back 1;loan 1;", 6);
        fault("falls 12345;back 1;loan 1;", 6);
        fault("falls 1 12345;back 1;loan 1;", 8);
        fault("falls 1 2;back 1;loan 1;", 8);
        fault("falls one;back 1;loan 1;", 6);
        fault("falls kin;back 1;loan 1;", 6);
        fault("falls kinds;back 1;loan 1;", 6);
        fault("falls notkind;back 1;loan 1;", 6);
        fault("falls loan;back 1;loan 1;", 6);
        fault("falls Kind;back 1;loan 1;", 6);
        fault("falls kiNd;back 1;loan 1;", 6);
        fault("falls 1\t;back 1;loan 1;", 7);
        fault("falls 1*2;back 1;loan 1;", 7);
        fault("falls 1>2;back 1;loan 1;", 7);
        fault("falls \u00e9;back 1;loan 1;", 6);
        fault("falls 1<2<3;back 1;loan 1;", 9);
        fault("falls 1=2=3;back 1;loan 1;", 9);
        fault("falls 1+not 2;back 1;loan 1;", 8);
        fault("falls 1<not 2;back 1;loan 1;", 8);
        fault("falls -1;back 1;loan 1;", 6);
        fault("falls 1+;back 1;loan 1;", 8);
        fault("falls 1--1;back 1;loan 1;", 8);
        fault("falls 1 or;back 1;loan 1;", 10);
        fault("falls 1 and or 1;back 1;loan 1;", 12);
        fault("falls or 1;back 1;loan 1;", 6);
        fault("falls not;back 1;loan 1;", 9);
        fault("falls ();back 1;loan 1;", 7);
        fault("falls (1;back 1;loan 1;", 8);
        fault("falls 1);back 1;loan 1;", 7);
        fault("falls (1 2);back 1;loan 1;", 9);
        fault("falls (falls 1);back 1;loan 1;", 7);
        fault("falls 1;back 1;loan 1;;", 22);
        fault("falls word word;back 1;loan 1;", 11);
        fault("falls 1;backs 1;loan 1;", 8);
    }

    private static void fault(String text, int place) {
        DebtYear x = new DebtYear();
        Check.due("text '" + text + "'", Check.text(x, 0, text), place);
        Check.due("a fault is no finding", x.count(8), 0);
        Check.due("the text stays untold", x.force(0, 0, 0), Check.NONE);
    }

    private static void nesting() {
        right("falls ((((1))));back 1;loan 1;");
        right("falls not not not not 1;back 1;loan 1;");
        right("falls (not(not 1));back 1;loan 1;");
        right("falls ((((1))))+((((1))));back ((((1))));loan not not not not 1;");
        right("falls not not not not 1 and not not not not 1 or ((((1))));back 1;loan 1;");
        right("falls (1)+(1)+(1)+(1)+(1)+(1);back 1;loan 1;");
        fault("falls (((((1)))));back 1;loan 1;", 10);
        fault("falls not not not not not 1;back 1;loan 1;", 22);
        fault("falls (not(not(1)));back 1;loan 1;", 14);
        fault("falls not not not not(1);back 1;loan 1;", 21);
        fault("falls ((((not 1))));back 1;loan 1;", 10);
        fault("falls 1 and ((((1)+(2))+(not(1))));back 1;loan 1;", 28);
        right("falls 1 and ((((1)+(2))+(not 1)));back 1;loan 1;");
    }

    private static void tapeAndTexts() {
        DebtYear x = new DebtYear();
        Check.feed(x, "falls 1;back 1;");
        Check.due("no such text", x.text(5), Check.BEYOND);
        Check.due("no such text", x.text(-1), Check.BEYOND);
        Check.due("the tape stays", x.feed(7, Check.bytes("loan 1;")), 22);
        Check.due("text", x.text(4), -1);
        Check.due("the tape is empty", x.feed(1, 'x'), 1);
        Check.due("a fault", x.text(4), 0);
        Check.due("the tape is empty then too", x.feed(1, ' '), 1);
        Check.due("text 4 stays", x.force(4, 0, 0), 0);
        Check.due("text 3 was never told", x.force(3, 0, 0), Check.NONE);
    }

    private static DebtYear pair() {
        DebtYear x = new DebtYear();
        x.person(0, -1, -1, 100);
        x.person(0, -1, -1, 100);
        x.field(0, 10, false);
        return x;
    }

    private static void force() {
        DebtYear x = pair();
        x.paper(1, 1, 5, 9, 0);
        Check.due("no such text", x.force(5, 0, 0), Check.BEYOND);
        Check.due("no such text", x.force(-1, 0, 0), Check.BEYOND);
        Check.due("never told", x.force(0, 0, 0), Check.NONE);
        Check.due("BEYOND ahead of NONE", x.force(0, 2, 0), Check.BEYOND);
        Check.due("BEYOND ahead of NONE", x.force(0, -1, 0), Check.BEYOND);
        Check.due("BEYOND ahead of NONE", x.force(0, 0, 401), Check.BEYOND);
        Check.due("BEYOND ahead of NONE", x.force(0, 0, -1), Check.BEYOND);
        Check.text(x, 0, "falls 1;back 0;loan 0;");
        Check.due("force", x.force(0, 0, 400), 0);
        Check.due("force", x.force(0, 1, 0), 1);
        Check.text(x, 0, "falls 0;back 0;loan 1;");
        Check.due("the text as it was then", x.falls(0, 1, 0), 2);
        Check.due("force", x.force(0, 1, 0), 2);
        Check.due("the text as it is now", x.falls(0, 1, 0), 0);
        for (int i = 3; i < 12; i++) {
            Check.due("force", x.force(0, 0, i), i);
        }
        Check.due("full", x.force(0, 0, 0), Check.FULL);
        Check.due("NONE ahead of FULL", x.force(1, 0, 0), Check.NONE);
        Check.due("BEYOND ahead of FULL", x.force(0, 0, 401), Check.BEYOND);
    }

    private static void law() {
        DebtYear x = new DebtYear();
        Check.text(x, 2, "falls 1;back 0;loan 0;");
        x.force(2, 0, 10);
        x.force(2, 1, 5);
        x.force(2, 0, 30);
        x.force(2, 0, 20);
        Check.due("ahead of all", x.law(0, 9), Check.NONE);
        Check.due("from 10", x.law(0, 10), 0);
        Check.due("to 19", x.law(0, 19), 0);
        Check.due("from 20", x.law(0, 20), 3);
        Check.due("the one made latest", x.law(0, 30), 3);
        Check.due("the other bench", x.law(1, 400), 1);
        Check.due("the other bench", x.law(1, 4), Check.NONE);
        Check.due("year -1", x.law(0, -1), Check.BEYOND);
        Check.due("year 401", x.law(0, 401), Check.BEYOND);
        Check.due("bench 2", x.law(2, 10), Check.BEYOND);
        Check.due("bench -1", x.law(-1, 10), Check.BEYOND);
    }

    private static void operators() {
        holds("1", true);
        holds("0", false);
        holds("2", true);
        holds("1-1", false);
        holds("1-2", true);
        holds("5-2-2=1", true);
        holds("5-(2-2)=5", true);
        holds("1+2<3", false);
        holds("1+2<4", true);
        holds("1-2<0", true);
        holds("0 or 0", false);
        holds("0 or 2", true);
        holds("(0 or 2)=1", true);
        holds("(2 or 0)=2", false);
        holds("1 and 2", true);
        holds("(2 and 2)=1", true);
        holds("2 and 0", false);
        holds("1 or 1 and 0", true);
        holds("(1 or 1)and 0", false);
        holds("0 and 1 or 1", true);
        holds("not 0", true);
        holds("not 2", false);
        holds("(not 0)=1", true);
        holds("not 1=2", true);
        holds("not 1=1", false);
        holds("not 0 and 0", false);
        holds("not 0 or 1", true);
        holds("not not 5", true);
        holds("(not not 5)=1", true);
        holds("(3)=3", true);
        holds("(1<2)+(2<3)=2", true);
        holds("9999+9999=9998", false);
        holds("0012=12", true);
        holds("9999-9998=1", true);
    }

    private static void holds(String e, boolean want) {
        DebtYear x = pair();
        x.paper(1, 1, 5, 9, 0);
        Check.rule(x, e, e, e);
        Check.due("falls " + e, x.falls(0, 0, 0), want ? 2 : 0);
        Check.due("truly " + e, x.truly(0, 1, 0), want ? 2 : 0);
        x.paper(3, 1, 5, 9, 0);
        Check.due("back " + e, x.back(0, 0, 0), want ? 1 : 0);
    }

    private static void namesOfPapers() {
        DebtYear x = new DebtYear();
        x.person(0, -1, -1, 1000);
        x.person(0, -1, -1, 1000);
        x.field(0, 17, true);
        for (int i = 0; i < 4; i++) {
            x.year(0);
        }
        x.paper(2, 1, 300, 10, 0);
        x.paper(5, 1, 8, 4, 0);
        x.pay(0, 60);
        x.word(0, 1);
        x.shift(1, 7);
        String all = "kind=2 and age=3 and owed=240 and paid=60 and sum=300 and worth=17";
        Check.rule(x, all, "0", "word=1 and stranger=0 and walls=1 and term=6");
        Check.due("kind .. worth", x.falls(0, 0, 7), 2);
        Check.due("age in another year", x.falls(0, 0, 8), 0);
        Check.due("kind .. term", x.truly(0, 0, 7), 2);
        Check.rule(x, "left=43", "0", "left=36");
        Check.due("left of bench 0", x.falls(0, 0, 7), 2);
        Check.due("left of bench 0 is not that of bench 1", x.falls(0, 1, 7), 0);
        Check.due("left of bench 1", x.truly(0, 1, 7), 2);
        Check.rule(x, "worth or walls or stranger or paid", "0", "kind=5 and term=0 and age=0 and owed=8 and owed=sum");
        Check.due("without a field", x.falls(1, 0, 4), 0);
        Check.due("made in this year", x.truly(1, 0, 4), 2);
        x.lives(1, true, true);
        Check.due("a stranger", x.falls(1, 0, 4), 2);
    }

    private static void namesOfFields() {
        DebtYear x = new DebtYear();
        x.person(0, -1, -1, 1000);
        x.person(0, -1, -1, 1000);
        x.field(0, 17, true);
        x.field(0, 4, false);
        x.paper(3, 1, 5, 9, 0);
        x.paper(3, 1, 5, 9, 1);
        x.shift(1, 7);
        String none = "kind=0 and age=0 and owed=0 and paid=0 and sum=0 and word=0 and term=0";
        Check.rule(x, "0", none + " and worth=17 and walls=1 and left=40 and not stranger", "0");
        Check.due("all names", x.back(0, 0, 10), 1);
        Check.due("left of bench 1", x.back(0, 1, 3), 1);
        Check.due("left of bench 1", x.back(0, 1, 10), 0);
        Check.due("another field", x.back(1, 0, 10), 0);
        x.lives(0, true, false);
        Check.due("the root is a stranger", x.back(0, 0, 10), 1);
        x.lives(1, true, false);
        Check.due("the holder is a stranger", x.back(0, 0, 10), 0);
        Check.rule(x, "0", "stranger and not walls", "0");
        Check.due("stranger", x.back(1, 0, 10), 1);
        Check.due("walls", x.back(0, 0, 10), 0);
    }

    private static void falls() {
        DebtYear x = pair();
        x.year(0);
        x.year(0);
        x.paper(1, 1, 5, 9, 0);
        Check.due("without a law", x.falls(0, 0, 2), 0);
        Check.rule(x, "word", "0", "1");
        Check.due("maybe", x.falls(0, 0, 2), 1);
        x.word(0, 1);
        Check.due("surely", x.falls(0, 0, 2), 2);
        x.word(0, 0);
        Check.due("not", x.falls(0, 0, 2), 0);
        Check.rule(x, "not word", "0", "1");
        Check.due("surely by none", x.falls(0, 0, 2), 2);
        x.word(0, 2);
        Check.due("maybe", x.falls(0, 0, 2), 1);
        Check.rule(x, "word=2", "0", "1");
        Check.due("an unknown word is never 2", x.falls(0, 0, 2), 0);
        Check.rule(x, "word<2", "0", "1");
        Check.due("surely by both", x.falls(0, 0, 2), 2);
        x.annul(0);
        Check.due("a void one is judged too", x.falls(0, 0, 2), 2);
        Check.due("in 400", x.falls(0, 0, 400), 2);
        judged(x, 0);
    }

    /** The wrong inputs of falls, truly and dress, of a paper 0 that is since year 2. */
    private static void judged(DebtYear x, int what) {
        int[][] beyond = {{0, 0, 1}, {0, 0, 401}, {0, 0, -1}, {0, 2, 2}, {0, -1, 2}, {1, 0, 2}, {-1, 0, 2}};
        for (int[] b : beyond) {
            int got = what == 0 ? x.falls(b[0], b[1], b[2]) : what == 1 ? x.truly(b[0], b[1], b[2]) : x.dress(b[0], b[1], b[2]);
            Check.due("BEYOND", got, Check.BEYOND);
        }
    }

    private static void truly() {
        DebtYear x = pair();
        x.year(0);
        x.year(0);
        x.paper(3, 1, 5, 9, 0);
        Check.due("without a law", x.truly(0, 0, 2), 0);
        Check.rule(x, "0", "0", "word and kind=3");
        Check.due("maybe", x.truly(0, 0, 2), 1);
        x.word(0, 1);
        Check.due("surely", x.truly(0, 0, 2), 2);
        x.word(0, 0);
        Check.due("not", x.truly(0, 0, 2), 0);
        judged(x, 1);
    }

    private static void back() {
        DebtYear x = pair();
        x.person(0, 0, -1, 0);
        Check.due("without a law", x.back(0, 0, 0), 0);
        Check.rule(x, "0", "1", "0");
        Check.due("the root holds it", x.back(0, 0, 0), 0);
        x.paper(3, 1, 5, 9, 0);
        Check.due("another one holds it", x.back(0, 0, 0), 1);
        x.die(0);
        Check.due("there is an heir", x.back(0, 0, 0), 1);
        x.paper(3, 102, 5, 9, 0);
        Check.due("the only heir holds it", x.back(0, 0, 0), 0);
        x.person(0, 0, -1, 0);
        Check.due("one of two heirs holds it", x.back(0, 0, 0), 1);
        x.die(2);
        x.die(3);
        Check.due("no heirs", x.back(0, 0, 0), 1);
        Check.due("no such field", x.back(1, 0, 0), Check.BEYOND);
        Check.due("no such field", x.back(-1, 0, 0), Check.BEYOND);
        Check.due("no such bench", x.back(0, 2, 0), Check.BEYOND);
        Check.due("no such bench", x.back(0, -1, 0), Check.BEYOND);
        Check.due("no such year", x.back(0, 0, 401), Check.BEYOND);
        Check.due("no such year", x.back(0, 0, -1), Check.BEYOND);
    }

    private static void dress() {
        DebtYear x = pair();
        x.year(0);
        x.year(0);
        x.paper(2, 1, 5, 9, 0);
        Check.due("without a law", x.dress(0, 0, 2), 127);
        Check.rule(x, "kind=1 or kind=2 or kind=6", "0", "0");
        Check.due("loans fall", x.dress(0, 0, 2), 127 - 2 - 4 - 64);
        Check.due("it is as it was", x.paperIs(0, 0), 2);
        Check.rule(x, "kind<3 and word", "0", "0");
        Check.due("maybe is not not", x.dress(0, 0, 2), 127 - 7);
        x.word(0, 0);
        Check.due("by its word", x.dress(0, 0, 2), 127);
        Check.rule(x, "worth=10", "0", "0");
        Check.due("all else as it is", x.dress(0, 0, 2), 0);
        judged(x, 2);
    }

    private static void price() {
        DebtYear x = pair();
        x.shift(1, 49);
        Check.due("bench 0", x.price(0, 0), 500);
        Check.due("bench 1", x.price(0, 1), 10);
        x.year(0);
        Check.due("bench 0 later", x.price(0, 0), 490);
        Check.due("bench 1 later", x.price(0, 1), 500);
        Check.due("no such field", x.price(1, 0), Check.BEYOND);
        Check.due("no such field", x.price(-1, 0), Check.BEYOND);
        Check.due("no such bench", x.price(0, 2), Check.BEYOND);
        Check.due("no such bench", x.price(0, -1), Check.BEYOND);
    }
}
