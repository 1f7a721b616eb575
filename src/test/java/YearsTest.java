/** Promises 28 to 33. */
public final class YearsTest {
    public static void main(String[] args) {
        harvests();
        eating();
        lenders();
        strangersBorrow();
        loansWhenPapersAreFull();
        duePapers();
        duePledges();
        dueSalesAndServed();
        payingByNumbers();
        theFiftiethYear();
        fieldsGoBack();
        fieldsGoBackByBench0Alone();
        findingsOfYear();
        years();
        chain();
        last();
        pays();
        lastAndPaysByAllWays();
        proves();
        Check.end();
    }

    private static void harvests() {
        DebtYear x = new DebtYear();
        x.person(0, -1, -1, 9990);
        x.person(0, -1, -1, 100);
        x.field(0, 19, false);
        x.field(1, 7, true);
        x.field(1, 99, true);
        Check.due("year", x.year(15), 0);
        // 19 * 15 / 10 = 28, of which 9 find room; 7 * 15 / 10 = 10; 99 * 15 / 10 = 148.
        Check.due("store 0", x.personIs(0, 2), 9989);
        Check.due("store 1", x.personIs(1, 2), 100 + 10 + 148 - 10);
        Check.due("lost", x.count(7), 19);
        Check.due("eaten", x.count(6), 20);
        Check.due("the year", x.count(4), 1);
        x.die(1);
        Check.due("lost", x.count(7), 19 + 248);
        x.year(30);
        Check.due("a dead one's harvest is lost", x.count(7), 19 + 248 + 21 + 297 + 57 - 10);
        x.year(0);
        Check.due("nothing comes", x.personIs(0, 2), 9979);
        Check.due("all stores", x.count(5), 9979);
    }

    private static void eating() {
        DebtYear x = new DebtYear();
        x.person(0, -1, -1, 10);
        x.person(0, -1, -1, 7);
        x.person(0, -1, -1, 0);
        Check.due("year", x.year(0), 13);
        Check.due("hungered 0", x.personIs(0, 6), 0);
        Check.due("hungered 1", x.personIs(1, 6), 3);
        Check.due("hungered 2", x.personIs(2, 6), 10);
        Check.due("store 1", x.personIs(1, 2), 0);
        Check.due("eaten", x.count(6), 17);
        x.die(2);
        Check.due("the dead don't eat", x.year(0), 20);
        Check.due("hungered 2", x.personIs(2, 6), 10);
    }

    private static void lenders() {
        DebtYear x = new DebtYear();
        x.person(0, -1, -1, 36);
        x.person(0, -1, -1, 4);
        x.person(0, -1, -1, 26);
        x.person(0, -1, -1, 999);
        // 0 has eaten: 26 less 6 is 20, it lends; 2 would have 26 still.
        Check.due("year", x.year(0), 0);
        Check.due("papers", x.count(2), 1);
        int[] loan = {1, 1, 0, 6, 0, 0, 5, -1, 0, 0};
        for (int what = 0; what < 10; what++) {
            Check.due("paperIs(0, " + what + ")", x.paperIs(0, what), loan[what]);
        }
        Check.due("store of 0", x.personIs(0, 2), 20);
        Check.due("store of 1", x.personIs(1, 2), 0);
        Check.due("eaten", x.count(6), 40);
        // Now 1 lacks 10: 0 has 10 left, 2 has 16, so 3 is asked.
        Check.due("year", x.year(0), 0);
        Check.due("lender", x.paperIs(1, 2), 3);
        Check.due("since", x.paperIs(1, 5), 1);
        Check.due("due", x.paperIs(1, 6), 6);

        DebtYear y = new DebtYear();
        y.person(0, -1, -1, 39);
        y.person(0, -1, -1, 0);
        Check.due("19 would be left", y.year(0), 10);
        y.person(0, -1, -1, 40);
        Check.due("20 are left", y.year(0), 0);
        Check.due("who has not eaten yet lends", y.paperIs(0, 2), 2);
        y.person(0, -1, -1, 9);
        y.person(0, -1, -1, 99);
        y.die(1);
        Check.due("1 is lacking", y.year(0), 0);
        Check.due("of 1 measure", y.paperIs(1, 3), 1);
        DebtYear z = new DebtYear();
        z.person(0, -1, -1, 1000);
        z.person(0, -1, -1, 0);
        z.shift(1, 46);
        Check.due("left 4 is above fear 3", z.year(0), 0);
        Check.due("left 3 is not", z.year(0), 10);
        z.fear(0, 1);
        Check.due("left 2 is above fear 1", z.year(0), 0);
        z.shift(0, 30);
        z.fear(0, 0);
        Check.due("left 1 by bench 1", z.year(0), 0);
        Check.due("left 50", z.year(0), 0);
        z.fear(0, 50);
        Check.due("nothing is above fear 50", z.year(0), 10);
        z.fear(0, 0);
        z.die(0);
        Check.due("the dead don't lend", z.year(0), 10);
    }

    private static void strangersBorrow() {
        DebtYear x = new DebtYear();
        x.person(0, -1, -1, 100);
        x.person(0, -1, -1, 0);
        x.fear(0, 50);
        x.lives(1, true, false);
        Check.due("whatever is left", x.year(0), 0);
        Check.due("lender", x.paperIs(0, 2), 0);
        x.lives(1, false, true);
        x.lives(0, true, true);
        Check.due("not if the lender is a stranger", x.year(0), 10);

        DebtYear y = new DebtYear();
        y.sheet(0, 8, 20);
        for (int i = 0; i < 20; i++) {
            y.years(0);
        }
        Check.due("the year", y.count(4), 400);
        DebtYear z = new DebtYear();
        z.sheet(0, 8, 19);
        for (int i = 0; i < 21; i++) {
            z.years(0);
        }
        z.person(0, -1, -1, 100);
        z.person(0, -1, -1, 0);
        z.fear(0, 0);
        Check.due("the year is 399", z.year(0), 0);
        Check.due("due in 400 at most", z.paperIs(0, 6), 400);
        Check.due("full", z.year(0), Check.FULL);
    }

    private static void loansWhenPapersAreFull() {
        DebtYear x = new DebtYear();
        x.person(0, -1, -1, 1000);
        x.person(0, -1, -1, 14);
        for (int i = 0; i < 19; i++) {
            x.paper(1, 1, 1, 400, 0);
        }
        Check.due("has", x.year(0), 0);
        Check.due("borrows 6", x.year(0), 0);
        Check.due("papers", x.count(2), 20);
        Check.due("no more papers", x.year(0), 10);
        Check.due("papers", x.count(2), 20);
        Check.due("the lender keeps it", x.personIs(0, 2), 1000 - 30 - 6);
    }

    private static void duePapers() {
        DebtYear x = new DebtYear();
        x.person(0, -1, -1, 50);
        x.person(0, -1, -1, 100);
        x.paper(1, 1, 15, 1, 0);
        x.paper(1, 1, 100, 0, 0);
        x.paper(1, 1, 5, 2, 0);
        Check.due("year 0", x.year(0), 0);
        Check.due("not due", x.paperIs(0, 4), 0);
        Check.due("due: as far as the store goes", x.paperIs(1, 4), 40);
        Check.due("open", x.paperIs(1, 9), 0);
        Check.due("store", x.personIs(0, 2), 0);
        Check.due("store", x.personIs(1, 2), 130);
        x.field(0, 38, false);
        Check.due("year 1", x.year(10), 0);
        Check.due("paid all", x.paperIs(0, 9), 1);
        Check.due("was due ahead, pays on", x.paperIs(1, 4), 53);
        Check.due("not due", x.paperIs(2, 4), 0);
        x.die(0);
        x.year(10);
        Check.due("the dead don't pay", x.paperIs(1, 4), 53);
        Check.due("open", x.paperIs(2, 9), 0);
        x.annul(1);
        x.year(0);
        Check.due("void", x.paperIs(1, 9), 3);
    }

    private static void duePledges() {
        DebtYear x = new DebtYear();
        x.person(0, -1, -1, 30);
        x.person(0, -1, -1, 100);
        x.person(0, -1, -1, 100);
        for (int i = 0; i < 5; i++) {
            x.field(0, 1, false);
        }
        x.paper(2, 1, 25, 0, 0);
        x.paper(2, 1, 5, 0, 1);
        x.paper(2, 1, 5, 0, 2);
        x.paper(3, 2, 5, 9, 2);
        x.paper(2, 1, 5, 1, 3);
        Check.due("year", x.year(0), 0);
        Check.due("some was paid", x.paperIs(0, 4), 20);
        Check.due("the field goes to TO", x.fieldIs(0, 2), 1);
        Check.due("so it is paid", x.paperIs(0, 9), 1);
        Check.due("nothing was paid", x.paperIs(1, 4), 0);
        Check.due("the field goes to TO", x.fieldIs(1, 2), 1);
        Check.due("so it is paid", x.paperIs(1, 9), 1);
        Check.due("BY does not hold it", x.fieldIs(2, 2), 2);
        Check.due("so it is open", x.paperIs(2, 9), 0);
        Check.due("not due yet", x.fieldIs(3, 2), 0);
        x.die(0);
        x.year(0);
        Check.due("a dead one's pledge goes too", x.fieldIs(3, 2), 1);
        Check.due("and is paid", x.paperIs(4, 9), 1);

        DebtYear y = new DebtYear();
        y.person(0, -1, -1, 30);
        y.person(0, -1, -1, 100);
        y.field(0, 1, false);
        y.paper(2, 1, 20, 0, 0);
        y.year(0);
        Check.due("paid in full", y.paperIs(0, 9), 1);
        Check.due("the field stays", y.fieldIs(0, 2), 0);
    }

    private static void dueSalesAndServed() {
        DebtYear x = new DebtYear();
        x.person(0, -1, -1, 50);
        x.person(0, -1, -1, 100);
        x.field(0, 1, false);
        x.field(0, 1, false);
        x.paper(3, 1, 10, 0, 0);
        x.paper(4, 1, 25, 0, 1);
        x.paper(6, 1, 20, 0, 0);
        x.year(0);
        Check.due("a sale that is paid", x.fieldIs(0, 2), 0);
        Check.due("a gift that is paid", x.fieldIs(1, 2), 0);
        Check.due("served", x.paperIs(2, 4), 5);
        Check.due("serves still", x.personIs(0, 3), 1);
        x.paper(1, 100, 45, 9, 0);
        x.pay(3, 45);
        x.year(0);
        Check.due("served is paid", x.paperIs(2, 9), 1);
        Check.due("free", x.personIs(0, 3), -1);
    }

    /** What comes in by one paper pays a later one, but not one ahead of it. */
    private static void payingByNumbers() {
        DebtYear x = new DebtYear();
        for (int i = 0; i < 3; i++) {
            x.person(0, -1, -1, i == 0 ? 30 : 10);
        }
        x.paper(1, 102, 20, 0, 0);
        x.paper(1, 1, 20, 0, 0);
        x.paper(1, 102, 20, 0, 0);
        x.year(0);
        Check.due("had nothing yet", x.paperIs(0, 4), 0);
        Check.due("pays", x.paperIs(1, 9), 1);
        Check.due("has it now", x.paperIs(2, 9), 1);
    }

    private static void theFiftiethYear() {
        DebtYear x = new DebtYear();
        x.person(0, -1, -1, 9000);
        x.person(0, -1, -1, 9000);
        x.shift(0, 48);
        x.shift(1, 30);
        x.paper(1, 1, 40, 400, 0);
        x.paper(1, 1, 41, 400, 0);
        x.paper(6, 1, 40, 400, 0);
        x.paper(1, 1, 40, 400, 0);
        x.paper(1, 1, 40, 400, 0);
        x.annul(4);
        x.word(0, 1);
        x.word(2, 1);
        Check.rule(x, "owed<41 and word and age=2 and left=50", "0", "0");
        x.year(0);
        Check.due("not yet", x.count(3), 4);
        Check.due("falls in year 2", x.falls(0, 0, 2), 2);
        x.year(0);
        Check.due("fallen", x.paperIs(0, 9), 2);
        Check.due("owes too much", x.paperIs(1, 9), 0);
        Check.due("fallen", x.paperIs(2, 9), 2);
        Check.due("free", x.personIs(0, 3), -1);
        Check.due("maybe is not surely", x.paperIs(3, 9), 0);
        Check.due("void", x.paperIs(4, 9), 3);
        Check.due("a fallen one is not owed", x.personIs(0, 4), 81);
        Check.due("can't be paid", x.pay(0, 1), Check.NONE);
        Check.due("can't be annulled", x.annul(2), Check.NONE);

        DebtYear y = new DebtYear();
        y.person(0, -1, -1, 9000);
        y.person(0, -1, -1, 9000);
        y.paper(1, 1, 40, 400, 0);
        Check.text(y, 0, "falls 1;back 0;loan 0;");
        y.force(0, 1, 0);
        y.shift(1, 49);
        y.year(0);
        Check.due("bench 1's fiftieth year strikes nothing", y.count(3), 1);
        y.shift(0, 48);
        y.year(0);
        Check.due("nor does bench 1's law", y.count(3), 1);
        y.force(0, 0, 4);
        y.shift(0, 47);
        y.year(0);
        Check.due("not in force in year 3", y.count(3), 1);
        y.shift(0, 46);
        y.year(0);
        Check.due("in force in year 4", y.count(3), 0);
    }

    private static void fieldsGoBack() {
        DebtYear x = new DebtYear();
        for (int i = 0; i < 2; i++) {
            x.person(0, -1, -1, 1000);
        }
        x.person(0, 0, -1, 1000);
        x.person(0, 0, -1, 1000);
        x.person(0, -1, -1, 1000);
        for (int i = 0; i < 3; i++) {
            x.field(0, 5, i == 1);
        }
        x.field(4, 5, false);
        x.paper(3, 1, 30, 400, 0);
        x.paper(3, 1, 30, 400, 1);
        x.paper(3, 401, 30, 400, 3);
        x.shift(0, 49);
        Check.rule(x, "1", "walls=0", "0");
        x.die(4);
        x.image();
        x.year(0);
        Check.due("back to the root", x.fieldIs(0, 2), 0);
        Check.due("in walls: not", x.fieldIs(1, 2), 1);
        Check.due("the root's own", x.fieldIs(2, 2), 0);
        Check.due("no heirs: it stays", x.fieldIs(3, 2), 1);
        Check.due("the sale is fallen", x.paperIs(0, 9), 2);
        Check.due("a fallen sale gives nothing back", x.paperIs(1, 9), 2);
        x.restore();
        x.die(0);
        x.year(0);
        Check.due("to the least heir", x.fieldIs(0, 2), 2);
        Check.due("from the dead root too", x.fieldIs(2, 2), 2);
    }

    private static void fieldsGoBackByBench0Alone() {
        for (int bench = 0; bench < 2; bench++) {
            DebtYear x = new DebtYear();
            x.person(0, -1, -1, 1000);
            x.person(0, -1, -1, 1000);
            x.field(0, 5, false);
            x.paper(3, 1, 30, 400, 0);
            x.shift(0, 49);
            Check.text(x, 0, "falls 1;back 1;loan 0;");
            x.force(0, bench, 0);
            x.year(0);
            Check.due("holder by the law of bench " + bench, x.fieldIs(0, 2), bench);
            Check.due("open by the law of bench " + bench, x.count(3), bench);
        }
    }

    private static void findingsOfYear() {
        DebtYear x = new DebtYear();
        Check.due("harvest -1", x.year(-1), Check.BEYOND);
        Check.due("harvest 31", x.year(31), Check.BEYOND);
        Check.due("the year", x.count(4), 0);
        x.sheet(0, 32, 20);
        for (int i = 0; i < 20; i++) {
            x.years(0);
        }
        Check.due("full", x.year(30), Check.FULL);
        Check.due("BEYOND ahead of FULL", x.year(31), Check.BEYOND);
        Check.due("none go by", x.years(0), 0);
        Check.due("findings", x.count(8), 4);
    }

    private static void years() {
        DebtYear x = new DebtYear();
        Check.due("no such sheet", x.years(-1), Check.BEYOND);
        Check.due("no such sheet", x.years(4), Check.BEYOND);
        Check.due("missing", x.years(3), Check.MISSING);
        x.person(0, -1, -1, 1000);
        x.field(0, 10, false);
        x.sheet(3, 32, 6);
        int[] harvests = {-1, 31, 20, 1 << 16, 0, 30};
        for (int i = 0; i < 6; i++) {
            x.put(3, i, harvests[i]);
        }
        Check.due("years", x.years(3), 6);
        // 10 and 10 at first, then 20, again 20, 0, 30.
        Check.due("store", x.personIs(0, 2), 1000 + 10 + 10 + 20 + 20 + 0 + 30 - 60);
        Check.due("the year", x.count(4), 6);
        x.sheet(3, 8, 0);
        Check.due("none", x.years(3), 0);
        x.sheet(3, 8, 20);
        for (int i = 0; i < 19; i++) {
            x.years(3);
        }
        Check.due("till 400", x.count(4), 386);
        Check.due("till 400", x.years(3), 14);
        Check.due("till 400", x.count(4), 400);

        DebtYear y = new DebtYear();
        y.person(0, -1, -1, 15);
        y.sheet(0, 16, 3);
        Check.due("years", y.years(0), 3);
        Check.due("hungered", y.personIs(0, 6), 15);
    }

    private static void chain() {
        DebtYear x = new DebtYear();
        Check.due("no such paper", x.chain(0), Check.BEYOND);
        for (int i = 0; i < 5; i++) {
            x.person(0, -1, -1, 10);
        }
        // 0 owes 1 owes 2 owes 3; each can, if it is paid.
        x.paper(1, 1, 10, 9, 0);
        x.paper(1, 102, 20, 9, 0);
        x.paper(1, 203, 30, 9, 0);
        Check.due("who is not paid can't, and so on", x.chain(0), 2 + 4);
        Check.due("the middle", x.chain(1), 4);
        Check.due("the last", x.chain(2), 0);
        x.paper(0, 4, 1, 9, 0);
        Check.due("0 can't: all that it is to pay for", x.chain(1), 1 + 4);
        Check.due("by rounds", x.chain(3), 0);
        Check.due("0, 1 and 2 can't", x.chain(2), 1 + 2);
        x.annul(3);
        Check.due("a void one", x.chain(3), 0);
        x.paper(1, 300, 100, 9, 0);
        Check.due("3 can't: 40 are less than 100", x.chain(4), 0);
        Check.due("0 is not paid, but owes but 10", x.chain(0), 2 + 4 + 8);
        x.die(0);
        Check.due("a dead one can't", x.chain(1), 1 + 4 + 8);
        Check.due("no such paper", x.chain(5), Check.BEYOND);
        Check.due("no such paper", x.chain(-1), Check.BEYOND);

        DebtYear ring = new DebtYear();
        for (int i = 0; i < 3; i++) {
            ring.person(0, -1, -1, 0);
        }
        ring.paper(1, 1, 10, 9, 0);
        ring.paper(1, 102, 10, 9, 0);
        ring.paper(1, 200, 10, 9, 0);
        ring.paper(5, 1, 1, 9, 0);
        Check.due("all in a ring can, as none can't at first", ring.chain(3), 0);
        Check.due("all but the one who owes nothing can't", ring.chain(0), 1 + 2 + 4);
        ring.annul(3);
        Check.due("0 owes nothing then", ring.chain(0), 2 + 4);
    }

    private static void last() {
        DebtYear x = new DebtYear();
        Check.due("no years", x.last(60, 60, 0, 0), 120);
        Check.due("no years, no debt", x.last(0, 0, 0, 3030), 0);
        Check.due("hunger", x.last(3, 0, 1, 0), 7);
        Check.due("eats what it could pay", x.last(10, 5, 1, 0), 5);
        Check.due("low alone counts if it is the worst", x.last(0, 0, 1, 1030), 0);
        Check.due("the worst", x.last(0, 0, 2, 30), 20);
        Check.due("60 are kept", x.last(60, 0, 8, 3030), 0);
        Check.due("no more than 9 a year", x.last(60, 60, 1, 3030), 102);
        Check.due("eight years of nothing", x.last(0, 60, 8, 0), 200);
        Check.due("eight years", x.last(60, 60, 8, 1919), 0);
        Check.due("eight years", x.last(0, 60, 8, 1616), 12);
        int[][] beyond = {{-1, 0, 0, 0}, {61, 0, 0, 0}, {0, -1, 0, 0}, {0, 61, 0, 0}, {0, 0, -1, 0}, {0, 0, 9, 0},
            {0, 0, 0, -1}, {0, 0, 0, 31}, {0, 0, 0, 3100}, {0, 0, 0, 3130}, {0, 0, 0, 1009}, {0, 0, 0, 100}, {0, 0, 0, -100}};
        for (int[] b : beyond) {
            Check.due("BEYOND", x.last(b[0], b[1], b[2], b[3]), Check.BEYOND);
            Check.due("BEYOND", x.pays(b[0], b[1], b[2] == 0 ? 1 : b[2], b[3], 0), Check.BEYOND);
        }
    }

    private static void pays() {
        DebtYear x = new DebtYear();
        Check.due("pays nothing of nothing", x.pays(0, 5, 1, 0, 0), 0);
        Check.due("pays what it can spare", x.pays(20, 5, 1, 30, 0), 5);
        Check.due("pays 9 at most", x.pays(60, 60, 1, 30, 30), 9);
        Check.due("a measure paid saves two", x.pays(10, 5, 1, 0, 0), 5);
        Check.due("neither low nor high", x.pays(10, 5, 1, 30, 15), Check.NONE);
        Check.due("neither low nor high", x.pays(10, 5, 1, 1010, 0), Check.NONE);
        Check.due("n is 0", x.pays(10, 5, 0, 30, 0), Check.BEYOND);
        Check.due("BEYOND ahead of NONE", x.pays(10, 5, 0, 30, 15), Check.BEYOND);
        Check.due("BEYOND ahead of NONE", x.pays(61, 5, 1, 30, 15), Check.BEYOND);
    }

    /** Against all ways gone through one by one. */
    private static void lastAndPaysByAllWays() {
        int[] stores = {0, 1, 9, 10, 17, 33, 58, 60};
        int[] debts = {0, 1, 8, 20, 60};
        int[] harvests = {0, 30, 313, 1010, 1120, 930, 3030, 820};
        for (int s : stores) {
            DebtYear x = new DebtYear();
            for (int o : debts) {
                for (int h : harvests) {
                    for (int n = 0; n <= 3; n++) {
                        Check.due("last", x.last(s, o, n, h), sure(s, o, n, h / 100, h % 100));
                    }
                    Check.due("pays", x.pays(s, o, 2, h, h / 100), best(s, o, 2, h / 100, h % 100, h / 100));
                    Check.due("pays", x.pays(s, o, 3, h, h % 100), best(s, o, 3, h / 100, h % 100, h % 100));
                }
            }
        }
    }

    private static int sure(int s, int o, int n, int low, int high) {
        if (n == 0) {
            return 2 * o;
        }
        int byLow = after(s + low, o, best(s, o, n, low, high, low), n, low, high);
        int byHigh = after(s + high, o, best(s, o, n, low, high, high), n, low, high);
        return Math.max(byLow, byHigh);
    }

    private static int best(int s, int o, int n, int low, int high, int harvest) {
        int best = 0;
        int least = Integer.MAX_VALUE;
        for (int p = 0; p <= 9 && p <= o && p <= s + harvest; p++) {
            int hunger = after(s + harvest, o, p, n, low, high);
            if (hunger < least) {
                least = hunger;
                best = p;
            }
        }
        return best;
    }

    private static int after(int has, int o, int p, int n, int low, int high) {
        int rest = has - p;
        if (rest < 10) {
            return 10 - rest + sure(0, o - p, n - 1, low, high);
        }
        return sure(Math.min(60, rest - 10), o - p, n - 1, low, high);
    }

    private static void proves() {
        DebtYear x = new DebtYear();
        Check.due("missing", x.proves(0, 0, 0, 0), Check.MISSING);
        int[][] beyond = {{-1, 0, 0, 0}, {61, 0, 0, 0}, {0, -1, 0, 0}, {0, 61, 0, 0}, {0, 0, -1, 0}, {0, 0, 1000, 0},
            {0, 0, 0, -1}, {0, 0, 0, 4}};
        for (int[] b : beyond) {
            Check.due("BEYOND", x.proves(b[0], b[1], b[2], b[3]), Check.BEYOND);
        }
        x.sheet(0, 8, 0);
        Check.due("no years", x.proves(0, 3, 6, 0), -1);
        Check.due("no years", x.proves(0, 3, 5, 0), 0);
        row(x, 12, 2, 3, 1);
        // 12 - 2 - 10 leaves 0; 3 - 1 - 10 lacks 8; 1 is still owed.
        Check.due("8 and 2", x.proves(0, 4, 10, 0), -1);
        Check.due("8 and 2", x.proves(0, 4, 9, 0), 4);
        Check.due("0 is still owed", x.proves(0, 3, 8, 0), -1);
        Check.due("owes no more", x.proves(0, 2, 999, 0), 3);
        Check.due("owes less", x.proves(0, 1, 999, 0), 1);
        row(x, 1, 2, 99, 99);
        Check.due("has less", x.proves(0, 60, 999, 0), 1);
        Check.due("the harvest ahead", x.proves(1, 60, 999, 0), 2);
        row(x, 31, 99);
        Check.due("harvest 31", x.proves(0, 60, 999, 0), 0);
        row(x, -1, 0);
        Check.due("harvest -1", x.proves(0, 60, 999, 0), 0);
        row(x, 30, 10);
        Check.due("payment 10", x.proves(60, 60, 999, 0), 1);
        row(x, 30, -1);
        Check.due("payment -1", x.proves(60, 60, 999, 0), 1);
        row(x, 3, 0, 4, 0, 12, 0, 0, 0);
        Check.due("7 and 6 and 8", x.proves(0, 0, 21, 0), -1);
        Check.due("7 and 6 and 8", x.proves(0, 0, 20, 0), 8);
        row(x, 30, 9, 99);
        Check.due("a last one is not looked at", x.proves(60, 9, 0, 0), -1);
        Check.due("but counted", x.proves(60, 10, 1, 0), 3);
        row(x, 30, 0, 0, 0, 0, 0, 0, 0, 0, 0, 0, 0, 0, 0, 0, 0);
        // 90 less 10 are 80, of which 60 are kept: six years, then one without.
        Check.due("60 are kept", x.proves(60, 0, 9, 0), 16);
        Check.due("60 are kept", x.proves(60, 0, 10, 0), -1);
    }

    private static void row(DebtYear x, int... numbers) {
        x.sheet(0, 8, numbers.length);
        for (int i = 0; i < numbers.length; i++) {
            x.put(0, i, numbers[i]);
        }
    }
}
