/** The boundaries and findings of LAST (Terms 6) and promises 31 to 33. */
public final class LastEdgesTest {
    private static final int[] NO_PURSE = {-1, 61, Integer.MIN_VALUE, Integer.MAX_VALUE};
    private static final int[] NO_SHEET = {-1, 4, Integer.MIN_VALUE, Integer.MAX_VALUE};
    /** 100 times low, and high: below 0, high 31 and more, low 31, low above high. */
    private static final int[] NO_HARVESTS = {-1, -100, -101, 31, 99, 131, 3031, 3100, 3130, 3131, 100, 3000, 3029, 201, 1009, 10000,
        Integer.MIN_VALUE, Integer.MAX_VALUE};
    private static final int[] HARVESTS = {0, 1, 30, 101, 130, 510, 1010, 1029, 1030, 2930, 3030};

    public static void main(String[] args) {
        lastFindings();
        lastKeepsAll();
        noYears();
        atTheEdges();
        paymentsOfAYear();
        keptAtMost60();
        whateverComes();
        askedAgain();
        paysFindings();
        neitherLowNorHigh();
        leastOfSeveral();
        paysAtTheEdges();
        provesFindings();
        provesHarvests();
        provesPayments();
        provesHunger();
        lastWithoutPayment();
        longRows();
        provesKeepsAll();
        Check.end();
    }

    private static void lastFindings() {
        for (int v : NO_PURSE) {
            Twins.keep("s " + v, Check.BEYOND, Lands::rich, x -> x.last(v, 5, 2, 520));
            Twins.keep("o " + v, Check.BEYOND, Lands::rich, x -> x.last(5, v, 2, 520));
        }
        int[] noYears = {-1, 9, Integer.MIN_VALUE, Integer.MAX_VALUE};
        for (int n : noYears) {
            Twins.keep("n " + n, Check.BEYOND, Lands::rich, x -> x.last(5, 5, n, 520));
        }
        for (int h : NO_HARVESTS) {
            Twins.keep("harvests " + h, Check.BEYOND, Lands::rich, x -> x.last(5, 5, 2, h));
            Twins.keep("harvests " + h + " of no years", Check.BEYOND, Lands::rich, x -> x.last(5, 5, 0, h));
        }
    }

    private static void lastKeepsAll() {
        int[] ends = {0, 60};
        for (int s : ends) {
            for (int o : ends) {
                for (int n = 0; n <= 8; n += 4) {
                    int years = n;
                    Twins.keep("last", Model.sure(s, o, n, 0, 30), Lands::rich, x -> x.last(s, o, years, 30));
                }
            }
        }
    }

    /** Behind n years each measure still owed counts as 2 of HUNGER. */
    private static void noYears() {
        for (int h : HARVESTS) {
            DebtYear x = new DebtYear();
            for (int o = 0; o <= 60; o++) {
                Check.due("o " + o, x.last(60 - o, o, 0, h), 2 * o);
            }
        }
    }

    /** s and o 0 to 60, n 0 to 8, harvests 0 to 30 both. */
    private static void atTheEdges() {
        int[] purses = {0, 1, 9, 10, 11, 59, 60};
        for (int h : HARVESTS) {
            DebtYear x = new DebtYear();
            for (int n = 0; n <= 8; n++) {
                int[][] table = Model.table(n, h / 100, h % 100);
                for (int s : purses) {
                    for (int o : purses) {
                        Check.due("last(" + s + ", " + o + ", " + n + ", " + h + ")", x.last(s, o, n, h), table[s][o]);
                    }
                }
            }
        }
    }

    /** It pays some (0 to 9, no more than it has or owes). */
    private static void paymentsOfAYear() {
        DebtYear x = new DebtYear();
        Check.due("9 of 9", x.last(60, 9, 1, 0), 0);
        Check.due("9 of 10", x.last(60, 10, 1, 0), 2);
        Check.due("18 of 18 in two years", x.last(60, 18, 2, 1010), 0);
        Check.due("18 of 19 in two years", x.last(60, 19, 2, 1010), 2);
        Check.due("all that it has", x.last(3, 9, 1, 0), 10 + 2 * 6);
        Check.due("nothing", x.last(0, 9, 1, 0), 10 + 2 * 9);
        Check.due("a harvest comes ahead of paying", x.last(0, 9, 1, 909), 10);
        Check.due("paying comes ahead of eating", x.last(0, 9, 1, 1919), 0);
        Check.due("what it lacks is hunger", x.last(0, 9, 1, 1818), 1);
        Check.due("no more than it owes", x.last(60, 1, 1, 0), 0);
    }

    /** 60 at most are kept for the next year; what it lacks is HUNGER (nothing is left then). */
    private static void keptAtMost60() {
        DebtYear x = new DebtYear();
        Check.due("60 for six years", x.last(60, 0, 6, 0), 0);
        Check.due("60 for seven years", x.last(60, 0, 7, 0), 10);
        Check.due("60 for eight years", x.last(60, 0, 8, 0), 20);
        Check.due("59 for six years", x.last(59, 0, 6, 0), 1);
        Check.due("nothing is left, no debt of hunger", x.last(0, 0, 2, 1010), 0);
        Check.due("5 a year", x.last(0, 0, 8, 505), 40);
        x.sheet(0, 8, 16);
        x.put(0, 0, 20);
        Check.due("60 and 20 less 10 is 70: 60 are kept", x.proves(60, 0, 9, 0), 16);
        Check.due("60 and 20 less 10 is 70: 60 are kept", x.proves(60, 0, 10, 0), -1);
        Check.due("50 and 20 less 10 is 60", x.proves(50, 0, 9, 0), 16);
        Check.due("50 and 20 less 10 is 60", x.proves(50, 0, 10, 0), -1);
        Check.due("49 and 20 less 10 is 59", x.proves(49, 0, 10, 0), 16);
        Check.due("49 and 20 less 10 is 59", x.proves(49, 0, 11, 0), -1);
    }

    /** The least HUNGER together that it can be sure of, whatever comes. */
    private static void whateverComes() {
        DebtYear x = new DebtYear();
        Check.due("the worst is low each year", x.last(0, 0, 3, 30), 30);
        Check.due("as if it were low alone", x.last(0, 0, 3, 0), 30);
        Check.due("and not high", x.last(0, 0, 3, 3030), 0);
        Check.due("low and high the same", x.last(0, 0, 1, 909), 1);
        Check.due("low one less", x.last(0, 0, 1, 809), 2);
        Check.due("high one more", x.last(0, 0, 1, 910), 1);
    }

    /** What was asked ahead of it changes no answer. */
    private static void askedAgain() {
        DebtYear x = new DebtYear();
        int[] harvests = {0, 30, 510, 505, 510, 3030, 30, 0};
        for (int round = 0; round < 2; round++) {
            for (int h : harvests) {
                for (int n = 8; n >= 5; n--) {
                    int want = Model.sure(60, 60, n, h / 100, h % 100);
                    Check.due("last", x.last(60, 60, n, h), want);
                    Check.due("last again", x.last(60, 60, n, h), want);
                }
                int pays = Model.least(Model.table(7, h / 100, h % 100), 60 + h % 100, 60)[1];
                Check.due("pays", x.pays(60, 60, 8, h, h % 100), pays);
                Check.due("pays again", x.pays(60, 60, 8, h, h % 100), pays);
            }
        }
    }

    private static void paysFindings() {
        for (int v : NO_PURSE) {
            Twins.keep("s " + v, Check.BEYOND, Lands::rich, x -> x.pays(v, 5, 2, 520, 5));
            Twins.keep("o " + v, Check.BEYOND, Lands::rich, x -> x.pays(5, v, 2, 520, 5));
            Twins.keep("BEYOND ahead of NONE: s " + v, Check.BEYOND, Lands::rich, x -> x.pays(v, 5, 2, 520, 6));
            Twins.keep("BEYOND ahead of NONE: o " + v, Check.BEYOND, Lands::rich, x -> x.pays(5, v, 2, 520, 6));
        }
        int[] noYears = {0, -1, 9, Integer.MIN_VALUE, Integer.MAX_VALUE};
        for (int n : noYears) {
            Twins.keep("n " + n, Check.BEYOND, Lands::rich, x -> x.pays(5, 5, n, 520, 20));
            Twins.keep("BEYOND ahead of NONE: n " + n, Check.BEYOND, Lands::rich, x -> x.pays(5, 5, n, 520, 21));
        }
        for (int h : NO_HARVESTS) {
            Twins.keep("harvests " + h, Check.BEYOND, Lands::rich, x -> x.pays(5, 5, 2, h, h % 100));
            Twins.keep("BEYOND ahead of NONE: " + h, Check.BEYOND, Lands::rich, x -> x.pays(5, 5, 2, h, 50));
        }
    }

    /** NONE: the harvest is neither low nor high. */
    private static void neitherLowNorHigh() {
        int[] none = {4, 6, 12, 19, 21, -1, 31, 520, Integer.MIN_VALUE, Integer.MAX_VALUE};
        for (int h : none) {
            Twins.keep("harvest " + h, Check.NONE, Lands::rich, x -> x.pays(5, 5, 2, 520, h));
        }
        int low = Model.least(Model.table(1, 5, 20), 10, 5)[1];
        int high = Model.least(Model.table(1, 5, 20), 25, 5)[1];
        Twins.keep("low", low, Lands::rich, x -> x.pays(5, 5, 2, 520, 5));
        Twins.keep("high", high, Lands::rich, x -> x.pays(5, 5, 2, 520, 20));
        Twins.keep("harvest 0 of 0, 0", 0, Lands::rich, x -> x.pays(0, 0, 1, 0, 0));
        Twins.keep("harvest 1 of 0, 0", Check.NONE, Lands::rich, x -> x.pays(0, 0, 1, 0, 1));
        Twins.keep("harvest 30 of 30, 30", 6, Lands::rich, x -> x.pays(60, 60, 7, 3030, 30));
        Twins.keep("harvest 29 of 30, 30", Check.NONE, Lands::rich, x -> x.pays(60, 60, 7, 3030, 29));
        Twins.keep("harvest 31 of 30, 30", Check.NONE, Lands::rich, x -> x.pays(60, 60, 7, 3030, 31));
    }

    /** Of several the least. */
    private static void leastOfSeveral() {
        DebtYear x = new DebtYear();
        Check.due("it can pay all in the second year", x.pays(60, 9, 2, 1010, 10), 0);
        Check.due("it can pay 9 in the second year", x.pays(60, 10, 2, 1010, 10), 1);
        Check.due("it can pay 9 in the second year", x.pays(60, 18, 2, 1010, 10), 9);
        Check.due("9 at most", x.pays(60, 19, 2, 1010, 10), 9);
        Check.due("nothing is owed", x.pays(60, 0, 8, 3030, 30), 0);
        Check.due("nothing is there", x.pays(0, 60, 8, 0, 0), 0);
        Check.due("all that is there", x.pays(0, 60, 1, 505, 5), 5);
        Check.due("60 in seven years more", x.pays(60, 60, 8, 3030, 30), 0);
        Check.due("54 of 60 in six years more", x.pays(60, 60, 7, 3030, 30), 6);
        Check.due("45 of 60 in five years more", x.pays(60, 60, 6, 3030, 30), 9);
    }

    private static void paysAtTheEdges() {
        int[] purses = {0, 1, 9, 10, 11, 59, 60};
        for (int h : HARVESTS) {
            DebtYear x = new DebtYear();
            for (int n = 1; n <= 8; n += n == 2 ? 5 : 1) {
                int[][] table = Model.table(n - 1, h / 100, h % 100);
                for (int s : purses) {
                    for (int o : purses) {
                        Check.due("low of " + h, x.pays(s, o, n, h, h / 100), Model.least(table, s + h / 100, o)[1]);
                        Check.due("high of " + h, x.pays(s, o, n, h, h % 100), Model.least(table, s + h % 100, o)[1]);
                    }
                }
            }
        }
    }

    private static void provesFindings() {
        for (int v : NO_PURSE) {
            Twins.keep("s " + v, Check.BEYOND, Lands::rich, x -> x.proves(v, 5, 9, 0));
            Twins.keep("o " + v, Check.BEYOND, Lands::rich, x -> x.proves(5, v, 9, 0));
            Twins.keep("BEYOND ahead of MISSING: s " + v, Check.BEYOND, Lands::rich, x -> x.proves(v, 5, 9, 3));
            Twins.keep("BEYOND ahead of MISSING: o " + v, Check.BEYOND, Lands::rich, x -> x.proves(5, v, 9, 3));
        }
        int[] noHunger = {-1, 1000, Integer.MIN_VALUE, Integer.MAX_VALUE};
        for (int v : noHunger) {
            Twins.keep("v " + v, Check.BEYOND, Lands::rich, x -> x.proves(5, 5, v, 0));
            Twins.keep("BEYOND ahead of MISSING: v " + v, Check.BEYOND, Lands::rich, x -> x.proves(5, 5, v, 3));
        }
        for (int s : NO_SHEET) {
            Twins.keep("sheet " + s, Check.BEYOND, Lands::rich, x -> x.proves(5, 5, 9, s));
        }
        Twins.keep("missing", Check.MISSING, Lands::rich, x -> x.proves(5, 5, 9, 3));
        Twins.keep("missing", Check.MISSING, Lands::rich, x -> x.proves(0, 0, 0, 3));
        Twins.keep("missing", Check.MISSING, Lands::rich, x -> x.proves(60, 60, 999, 3));
    }

    private static DebtYear row(int bits, int... numbers) {
        DebtYear x = new DebtYear();
        x.sheet(1, bits, numbers.length);
        for (int i = 0; i < numbers.length; i++) {
            x.put(1, i, numbers[i]);
        }
        return x;
    }

    private static void proved(int want, int s, int o, int v, int... numbers) {
        int[] widths = {8, 16, 32};
        for (int bits : widths) {
            DebtYear x = row(bits, numbers);
            Check.due("proves(" + s + ", " + o + ", " + v + ") of " + java.util.Arrays.toString(numbers), x.proves(s, o, v, 1), want);
            Check.due("no finding", x.count(8), 0);
        }
    }

    /** A harvest not 0 to 30. */
    private static void provesHarvests() {
        proved(-1, 0, 0, 10, 0, 0);
        proved(-1, 0, 0, 0, 30, 0);
        proved(0, 0, 0, 999, -1, 0);
        proved(0, 0, 0, 999, 31, 0);
        proved(0, 0, 0, 999, -128, 0);
        proved(0, 0, 0, 999, 127, 0);
        proved(2, 0, 0, 999, 0, 0, 31, 0);
        proved(2, 0, 0, 999, 0, 0, -1, 99);
        proved(0, 0, 0, 0, 31, 10);
    }

    /** A payment not 0 to 9, or more than it has or owes. */
    private static void provesPayments() {
        proved(-1, 60, 60, 102, 0, 9);
        proved(1, 60, 60, 999, 0, 10);
        proved(1, 60, 60, 999, 0, -1);
        proved(-1, 0, 60, 999, 5, 5);
        proved(1, 0, 60, 999, 5, 6);
        proved(-1, 5, 60, 999, 0, 5);
        proved(1, 5, 60, 999, 0, 6);
        proved(-1, 60, 5, 0, 0, 5);
        proved(1, 60, 5, 999, 0, 6);
        proved(1, 60, 0, 999, 0, 1);
        proved(3, 60, 9, 999, 0, 5, 0, 5);
        proved(-1, 60, 9, 0, 0, 5, 0, 4);
        proved(3, 15, 9, 999, 0, 5, 0, 1);
        proved(-1, 15, 9, 999, 0, 4, 0, 1);
        proved(3, 60, 60, 999, 0, 0, 30, 10, 99, 99);
    }

    /** Or how many it has, if HUNGER is above v. */
    private static void provesHunger() {
        proved(-1, 0, 0, 7, 3, 0);
        proved(2, 0, 0, 6, 3, 0);
        proved(-1, 0, 4, 8);
        proved(0, 0, 4, 7);
        proved(-1, 0, 60, 120);
        proved(0, 0, 60, 119);
        proved(-1, 0, 0, 0);
        proved(2, 10, 4, 6, 0, 1);
        proved(-1, 10, 4, 7, 0, 1);
        proved(-1, 0, 0, 0, 10, 0, 10, 0);
        proved(4, 0, 0, 0, 10, 0, 9, 0);
        proved(-1, 0, 0, 1, 10, 0, 9, 0);
        proved(4, 0, 0, 9, 9, 0, 1, 0);
        proved(-1, 0, 0, 10, 9, 0, 1, 0);
        proved(-1, 60, 60, 999, 0, 0);
    }

    /** A last one without a payment is not looked at. */
    private static void lastWithoutPayment() {
        proved(-1, 0, 0, 0, 5);
        proved(-1, 0, 0, 0, 99);
        proved(-1, 0, 0, 0, -1);
        proved(1, 0, 1, 1, 30);
        proved(-1, 0, 1, 2, 30);
        proved(-1, 10, 0, 0, 0, 0, 31);
        proved(3, 10, 1, 1, 0, 0, 31);
        proved(1, 10, 1, 1, 0, 2, 31);
    }

    /** Up to 20 numbers. */
    private static void longRows() {
        int[] twenty = new int[20];
        for (int i = 0; i < 20; i += 2) {
            twenty[i] = 16;
            twenty[i + 1] = 6;
        }
        proved(-1, 0, 60, 0, twenty);
        proved(19, 0, 59, 999, twenty);
        int[] wrong = twenty.clone();
        wrong[19] = 7;
        proved(19, 0, 60, 999, wrong);
        wrong[18] = 31;
        proved(18, 0, 60, 999, wrong);
        wrong[18] = 15;
        wrong[19] = 6;
        proved(20, 0, 60, 0, wrong);
        proved(-1, 0, 60, 1, wrong);
        int[] nineteen = java.util.Arrays.copyOf(wrong, 19);
        proved(19, 0, 60, 11, nineteen);
        proved(-1, 0, 60, 12, nineteen);
        proved(-1, 0, 0, 100, new int[20]);
        proved(20, 0, 0, 99, new int[20]);
        proved(-1, 0, 60, 220, new int[20]);
        proved(20, 0, 60, 219, new int[20]);
    }

    private static void provesKeepsAll() {
        // 12, 9, 6, 3, 0: 12 and 5 less 9 lacks 2; 6 less 3 lacks 7.
        Twins.keep("proves", -1, Lands::rich, x -> x.proves(5, 12, 9, 0));
        Twins.keep("proves not", 5, Lands::rich, x -> x.proves(5, 12, 8, 0));
        Twins.keep("may not be", 3, Lands::rich, x -> x.proves(5, 11, 8, 0));
        Twins.keep("may not be", 0, Lands::rich, x -> x.proves(5, 11, 8, 1));
    }
}
