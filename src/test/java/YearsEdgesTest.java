import java.util.function.Consumer;

/** The boundaries and findings of a YEAR that GOES BY (Terms 4), of THE CHAIN (Terms 5) and promises 28 to 30. */
public final class YearsEdgesTest {
    public static void main(String[] args) {
        yearFindings();
        lastYear();
        harvestsAreCut();
        harvestsFillStores();
        harvestsOfTheDead();
        meals();
        whatALenderKeeps();
        whatALenderFears();
        countOfBench1();
        strangersAsk();
        firstOfTheLenders();
        theLoan();
        dueAtMost400();
        twentiethPaper();
        dueOrNot();
        asFarAsTheStoreGoes();
        pledges();
        pledgesOfTheDead();
        dueToAFullStore();
        dueSales();
        theFiftiethYear();
        surelyAlone();
        asItIsThen();
        lawOfThatYear();
        fieldsGoBack();
        leastHeirIsTheLastPerson();
        fullLands();
        yearsFindings();
        yearsTellHarvests();
        yearsTill400();
        chainFindings();
        moreThanItHas();
        longChains();
        Check.end();
    }

    /** PERSONS with these STORES, whose FEAR is 50, so that nobody lends. */
    private static DebtYear people(int... stores) {
        DebtYear x = new DebtYear();
        for (int p = 0; p < stores.length; p++) {
            x.person(0, -1, -1, stores[p]);
            x.fear(p, 50);
        }
        return x;
    }

    private static void yearFindings() {
        int[] wrong = {-1, 31, Integer.MIN_VALUE, Integer.MAX_VALUE};
        for (int harvest : wrong) {
            Twins.keep("harvest " + harvest, Check.BEYOND, Lands::rich, x -> x.year(harvest));
            Twins.keep("BEYOND ahead of FULL: " + harvest, Check.BEYOND, Lands::endOfTime, x -> x.year(harvest));
        }
        Twins.keep("full", Check.FULL, Lands::endOfTime, x -> x.year(0));
        Twins.keep("full", Check.FULL, Lands::endOfTime, x -> x.year(30));
        Twins.answer("harvest 0", 0, Lands::rich, x -> x.year(0));
        Twins.answer("harvest 30", 0, Lands::rich, x -> x.year(30));
    }

    /** THE YEAR is 0 at first (at most 400). */
    private static void lastYear() {
        DebtYear x = Lands.in(399);
        Check.due("399", x.year(10), 0);
        Check.due("400", x.count(4), 400);
        Check.due("full", x.year(10), Check.FULL);
        Check.due("400", x.count(4), 400);
    }

    /** Each FIELD brings WORTH times that by 10, cut. */
    private static void harvestsAreCut() {
        int[][] due = {{1, 0, 0}, {1, 1, 0}, {1, 9, 0}, {1, 10, 1}, {1, 11, 1}, {1, 19, 1}, {1, 20, 2}, {1, 29, 2}, {1, 30, 3},
            {3, 3, 0}, {3, 4, 1}, {7, 13, 9}, {99, 0, 0}, {99, 1, 9}, {99, 10, 99}, {99, 30, 297}};
        for (int[] d : due) {
            DebtYear x = people(100);
            x.field(0, d[0], false);
            Check.due("year", x.year(d[1]), 0);
            Check.due(d[0] + " by " + d[1], x.personIs(0, 2), 90 + d[2]);
        }
        DebtYear two = people(100);
        two.field(0, 15, false);
        two.field(0, 15, false);
        two.year(1);
        Check.due("each is cut by itself", two.personIs(0, 2), 92);
    }

    /** 9999 at most, here and always; what is above is lost. */
    private static void harvestsFillStores() {
        int[][] due = {{9702, 9989, 0}, {9703, 9989, 1}, {9701, 9988, 0}, {9999, 9989, 297}};
        for (int[] d : due) {
            DebtYear x = people(d[0]);
            x.field(0, 99, false);
            x.year(30);
            Check.due("store of " + d[0], x.personIs(0, 2), d[1]);
            Check.due("lost of " + d[0], x.count(7), d[2]);
            Check.due("eaten", x.count(6), 10);
        }
    }

    private static void harvestsOfTheDead() {
        DebtYear x = people(50, 50);
        x.field(0, 30, false);
        x.field(1, 20, false);
        x.die(0);
        x.year(10);
        Check.due("nothing comes", x.personIs(0, 2), 0);
        Check.due("lost", x.count(7), 50 + 30);
        Check.due("the dead don't eat", x.count(6), 10);
        Check.due("who lives", x.personIs(1, 2), 60);
        Check.due("the dead don't hunger", x.personIs(0, 6), 0);
    }

    /** Each PERSON eats 10 of its STORE; HUNGERS for the rest; the harvest comes first. */
    private static void meals() {
        int[][] due = {{0, 0, 10, 0}, {1, 0, 9, 1}, {9, 0, 1, 9}, {10, 0, 0, 10}, {11, 1, 0, 10}, {9999, 9989, 0, 10}};
        for (int[] d : due) {
            DebtYear x = people(d[0]);
            Check.due("hunger of " + d[0], x.year(30), d[2]);
            Check.due("store of " + d[0], x.personIs(0, 2), d[1]);
            Check.due("hungered of " + d[0], x.personIs(0, 6), d[2]);
            Check.due("eaten of " + d[0], x.count(6), d[3]);
            Check.due("all stores", x.count(5), d[1]);
        }
        DebtYear x = people(0, 3);
        x.field(0, 10, false);
        Check.due("the harvest is eaten", x.year(10), 7);
        Check.due("all together", x.year(9), 1 + 10);
        Check.due("in all", x.personIs(1, 6), 17);
    }

    /** Its STORE less what is lacking is 20 at least; who has a lesser number has eaten then. */
    private static void whatALenderKeeps() {
        for (int lacks = 1; lacks <= 10; lacks++) {
            for (int more = -1; more <= 1; more++) {
                DebtYear behind = new DebtYear();
                behind.person(0, -1, -1, 10 - lacks);
                behind.person(0, -1, -1, 20 + lacks + more);
                lends("who has not eaten yet", behind, 0, lacks, more, 10 + more);
                DebtYear ahead = new DebtYear();
                ahead.person(0, -1, -1, 30 + lacks + more);
                ahead.person(0, -1, -1, 10 - lacks);
                lends("who has eaten", ahead, 1, lacks, more, 20 + more);
            }
        }
    }

    private static void lends(String what, DebtYear x, int asks, int lacks, int more, int keeps) {
        boolean lends = more >= 0;
        Check.due(what + ": hunger", x.year(0), lends ? 0 : lacks);
        Check.due(what + ": papers", x.count(2), lends ? 1 : 0);
        Check.due(what + ": has", x.personIs(1 - asks, 2), lends ? keeps : keeps + lacks);
        Check.due(what + ": who asks has nothing left", x.personIs(asks, 2), 0);
        Check.due(what + ": eaten", x.count(6), lends ? 20 : 20 - lacks);
        Check.due(what + ": owes", x.personIs(asks, 4), lends ? lacks : 0);
        Check.due(what + ": hungered", x.personIs(asks, 6), lends ? 0 : lacks);
    }

    /** LEFT by BENCH 1's COUNT of THE YEAR is above its FEAR. */
    private static void whatALenderFears() {
        int[][] due = {{0, 1, 1}, {1, 1, 0}, {1, 2, 1}, {2, 1, 0}, {3, 3, 0}, {3, 4, 1}, {49, 49, 0}, {49, 50, 1}, {50, 50, 0}, {0, 50, 1}};
        for (int[] d : due) {
            DebtYear x = new DebtYear();
            x.person(0, -1, -1, 1000);
            x.person(0, -1, -1, 0);
            x.fear(0, d[0]);
            x.shift(1, 50 - d[1]);
            Check.due("left", x.left(1, 0), d[1]);
            Check.due("fear " + d[0] + ", left " + d[1], x.year(0), d[2] == 1 ? 0 : 10);
        }
        DebtYear first = new DebtYear();
        first.person(0, -1, -1, 1000);
        first.person(0, -1, -1, 0);
        first.shift(1, 46);
        Check.due("fear 3 at first, left 4", first.year(0), 0);
        Check.due("fear 3 at first, left 3", first.year(0), 10);
    }

    private static void countOfBench1() {
        DebtYear x = new DebtYear();
        x.person(0, -1, -1, 1000);
        x.person(0, -1, -1, 0);
        x.shift(0, 48);
        x.fear(0, 45);
        Check.due("left 50 in year 0", x.year(0), 0);
        x.shift(1, 3);
        Check.due("left 46 in year 1: THE YEAR is not one more yet", x.year(0), 0);
        Check.due("left 45 in year 2", x.year(0), 10);
        x.fear(1, 0);
        Check.due("who asks has a fear of its own, that is not asked", x.year(0), 10);
    }

    /** If who asks is a STRANGER: whatever is LEFT. */
    private static void strangersAsk() {
        int[][] due = {{1000, 1, 0}, {40, 1, 0}, {39, 1, 10}, {1000, 0, 10}};
        for (int[] d : due) {
            DebtYear x = people(d[0], 0);
            x.lives(1, d[1] == 1, false);
            x.shift(1, 49);
            Check.due("has " + d[0] + ", stranger " + d[1], x.year(0), d[2]);
        }
        DebtYear x = people(1000, 0);
        x.lives(0, true, true);
        x.lives(1, false, true);
        Check.due("a stranger who lends fears too", x.year(0), 10);
        x.fear(0, 0);
        Check.due("a stranger lends", x.year(0), 0);
    }

    /** Of PERSONS who are not DEAD, by numbers (not itself), the first one who LENDS. */
    private static void firstOfTheLenders() {
        DebtYear x = new DebtYear();
        int[] stores = {100, 35, 0, 29, 100, 30, 1000};
        for (int store : stores) {
            x.person(0, -1, -1, store);
        }
        x.fear(4, 50);
        x.die(0);
        // 1 has 25 as it has eaten, 3 has 29, 4 fears.
        Check.due("year", x.year(0), 0);
        Check.due("one paper", x.count(2), 1);
        Check.due("5 lends", x.paperIs(0, 2), 5);
        Check.due("5 has eaten too", x.personIs(5, 2), 10);
        DebtYear y = new DebtYear();
        y.person(0, -1, -1, 0);
        y.person(0, -1, -1, 25);
        y.person(0, -1, -1, 25);
        Check.due("two who can't alone don't lend together", y.year(0), 10);
        DebtYear z = new DebtYear();
        z.person(0, -1, -1, 5);
        Check.due("nobody else", z.year(0), 5);
        DebtYear all = new DebtYear();
        all.person(0, -1, -1, 45);
        all.person(0, -1, -1, 5);
        all.person(0, -1, -1, 0);
        all.person(0, -1, -1, 0);
        all.person(0, -1, -1, 60);
        Check.due("year", all.year(0), 0);
        Check.due("0 lends to 1", all.paperIs(0, 2), 0);
        Check.due("0 has 20 more for 2", all.paperIs(1, 2), 0);
        Check.due("0 has no more for 3", all.paperIs(2, 2), 4);
        Check.due("0 keeps 20", all.personIs(0, 2), 20);
    }

    /** That becomes a LOAN due in 5 years, its WORD 0. */
    private static void theLoan() {
        DebtYear x = Lands.in(7);
        x.person(0, -1, -1, 3);
        x.person(0, -1, -1, 500);
        x.year(0);
        int[] is = {1, 0, 1, 7, 0, 7, 12, -1, 0, 0};
        for (int what = 0; what < 10; what++) {
            Check.due("the loan's " + what, x.paperIs(0, what), is[what]);
        }
        x.die(1);
        x.field(0, 20, false);
        for (int year = 8; year < 12; year++) {
            x.year(10);
        }
        Check.due("not due in 11", x.paperIs(0, 9), 0);
        x.year(10);
        Check.due("due in 12", x.paperIs(0, 9), 1);
    }

    /** Due in 5 years (at most 400). */
    private static void dueAtMost400() {
        int[][] due = {{394, 399}, {395, 400}, {396, 400}, {399, 400}};
        for (int[] d : due) {
            DebtYear x = Lands.in(d[0]);
            x.person(0, -1, -1, 0);
            x.person(0, -1, -1, 500);
            x.fear(1, 0);
            Check.due("year", x.year(0), 0);
            Check.due("lent in " + d[0], x.paperIs(0, 6), d[1]);
        }
    }

    /** If there is no one, or 20 PAPERS. */
    private static void twentiethPaper() {
        for (int papers = 18; papers <= 20; papers++) {
            DebtYear x = new DebtYear();
            x.person(0, -1, -1, 4);
            x.person(0, -1, -1, 5);
            x.person(0, -1, -1, 1000);
            for (int i = 0; i < papers; i++) {
                x.paper(0, 201, 1, 400, 0);
            }
            int lent = Math.min(2, 20 - papers);
            Check.due("hunger with " + papers, x.year(0), lent == 2 ? 0 : lent == 1 ? 5 : 11);
            Check.due("papers", x.count(2), papers + lent);
            Check.due("the lender's store", x.personIs(2, 2), 990 - (lent > 0 ? 6 : 0) - (lent > 1 ? 5 : 0));
            Check.due("eaten", x.count(6), 30 - (lent > 0 ? 0 : 6) - (lent > 1 ? 0 : 5));
        }
    }

    /** Each OPEN PAPER that is due in THE YEAR or was ahead. */
    private static void dueOrNot() {
        for (int kind = 0; kind < 7; kind++) {
            for (int due = 0; due <= 4; due++) {
                DebtYear x = people(500, 500);
                x.field(0, 1, false);
                x.paper(kind, 1, 100, due, 0);
                for (int year = 0; year <= 4; year++) {
                    x.year(0);
                    Check.due("kind " + kind + " due in " + due + " behind " + year, x.paperIs(0, 9), year >= due ? 1 : 0);
                    Check.due("paid", x.paperIs(0, 4), year >= due ? 100 : 0);
                }
            }
        }
        DebtYear ahead = people(10, 10);
        ahead.paper(1, 1, 5, 0, 0);
        ahead.year(0);
        Check.due("has nothing", ahead.paperIs(0, 4), 0);
        ahead.field(0, 12, false);
        ahead.year(10);
        Check.due("was due ahead: pays on", ahead.paperIs(0, 4), 2);
        ahead.year(10);
        ahead.year(10);
        Check.due("pays all", ahead.paperIs(0, 9), 1);
        Check.due("and keeps the rest", ahead.personIs(0, 2), 1);
    }

    /** Pays TO of its STORE what is OWED, as far as its STORE goes; if OWED is 0 then it is PAID. */
    private static void asFarAsTheStoreGoes() {
        int[][] due = {{10, 0, 0, 0}, {11, 1, 0, 0}, {29, 19, 0, 0}, {30, 20, 1, 0}, {31, 20, 1, 1}};
        for (int[] d : due) {
            DebtYear x = people(d[0], 10);
            x.paper(1, 1, 20, 0, 0);
            Check.due("year", x.year(0), 0);
            Check.due("paid of " + d[0], x.paperIs(0, 4), d[1]);
            Check.due("state of " + d[0], x.paperIs(0, 9), d[2]);
            Check.due("store of " + d[0], x.personIs(0, 2), d[3]);
            Check.due("TO's store", x.personIs(1, 2), d[1]);
        }
        DebtYear two = people(35, 10);
        two.paper(1, 1, 20, 0, 0);
        two.paper(1, 1, 20, 0, 0);
        two.year(0);
        Check.due("the first one is paid first", two.paperIs(0, 9), 1);
        Check.due("the rest goes to the next", two.paperIs(1, 4), 5);
    }

    /** Else of a PLEDGE the FIELD goes to TO, if BY holds it, and it is PAID, too. */
    private static void pledges() {
        int[][] due = {{10, 0, 1, 1}, {29, 19, 1, 1}, {30, 20, 1, 0}, {31, 20, 1, 0}};
        for (int[] d : due) {
            DebtYear x = people(d[0], 10);
            x.field(0, 9, false);
            x.paper(2, 1, 20, 0, 0);
            x.year(0);
            Check.due("paid of " + d[0], x.paperIs(0, 4), d[1]);
            Check.due("state of " + d[0], x.paperIs(0, 9), d[2]);
            Check.due("holder of " + d[0], x.fieldIs(0, 2), d[3]);
            Check.due("it is not owed any more", x.personIs(0, 4), 0);
        }
        DebtYear sold = people(10, 10, 10);
        sold.field(0, 9, false);
        sold.paper(2, 1, 20, 0, 0);
        sold.paper(3, 2, 5, 400, 0);
        sold.year(0);
        Check.due("BY holds it no more: it stays", sold.fieldIs(0, 2), 2);
        Check.due("and is open", sold.paperIs(0, 9), 0);
        DebtYear twice = people(10, 10, 10);
        twice.field(0, 9, false);
        twice.paper(2, 1, 20, 0, 0);
        twice.paper(2, 2, 20, 0, 0);
        twice.year(0);
        Check.due("pledged twice: the first one has it", twice.fieldIs(0, 2), 1);
        Check.due("the second one is open", twice.paperIs(1, 9), 0);
        for (int kind = 0; kind < 7; kind++) {
            DebtYear x = people(10, 10);
            x.field(0, 9, false);
            x.field(0, 9, false);
            x.paper(kind, 1, 20, 0, 0);
            int holder = x.fieldIs(0, 2);
            x.year(0);
            Check.due("kind " + kind + " is open", x.paperIs(0, 9), kind == 2 ? 1 : 0);
            Check.due("kind " + kind + " leaves the field", x.fieldIs(0, 2), kind == 2 ? 1 : holder);
            Check.due("and others", x.fieldIs(1, 2), 0);
        }
    }

    /** BY, if it is not DEAD, pays. */
    private static void pledgesOfTheDead() {
        DebtYear x = people(500, 500, 500);
        x.field(0, 9, false);
        x.paper(2, 1, 20, 0, 0);
        x.paper(1, 1, 20, 0, 0);
        x.paper(1, 201, 30, 0, 0);
        x.die(0);
        x.year(0);
        Check.due("a dead one's loan is open", x.paperIs(1, 9), 0);
        Check.due("nothing was paid", x.paperIs(1, 4), 0);
        Check.due("its pledge is paid", x.paperIs(0, 9), 1);
        Check.due("by its field", x.fieldIs(0, 2), 1);
        x.die(1);
        DebtYear to = people(500, 500);
        to.field(0, 9, false);
        to.paper(1, 1, 20, 0, 0);
        to.paper(2, 1, 9999, 0, 0);
        to.die(1);
        to.year(0);
        Check.due("paid to a dead one", to.paperIs(0, 9), 1);
        Check.due("it is lost", to.count(7), 500 + 490);
        Check.due("all was paid", to.personIs(0, 2), 0);
        Check.due("a field goes to a dead one", to.fieldIs(0, 2), 1);
    }

    private static void dueToAFullStore() {
        int[][] due = {{9989, 9999, 0}, {9990, 9999, 1}, {9988, 9998, 0}};
        for (int[] d : due) {
            DebtYear x = people(500, d[0]);
            x.paper(1, 1, 20, 0, 0);
            x.year(0);
            Check.due("TO of " + d[0], x.personIs(1, 2), d[1]);
            Check.due("lost", x.count(7), d[2]);
            Check.due("it is paid", x.paperIs(0, 9), 1);
        }
    }

    /** When a SALE or GIFT is PAID its FIELD comes back to BY, if TO holds it. */
    private static void dueSales() {
        for (int kind = 3; kind <= 4; kind++) {
            for (int store = 29; store <= 30; store++) {
                DebtYear x = people(store, 100, 100);
                x.field(0, 9, false);
                x.paper(kind, 1, 20, 0, 0);
                x.year(0);
                Check.due("kind " + kind + " of " + store, x.fieldIs(0, 2), store == 30 ? 0 : 1);
                Check.due("state", x.paperIs(0, 9), store == 30 ? 1 : 0);
            }
            DebtYear x = people(100, 100, 100);
            x.field(0, 9, false);
            x.paper(kind, 1, 20, 0, 0);
            x.paper(kind, 102, 20, 400, 0);
            x.year(0);
            Check.due("TO holds it no more", x.fieldIs(0, 2), 2);
            Check.due("it is paid", x.paperIs(0, 9), 1);
            DebtYear again = people(10, 100);
            again.field(0, 9, false);
            again.paper(kind, 1, 20, 0, 0);
            again.paper(kind, 100, 5, 400, 0);
            again.year(0);
            Check.due("BY holds it again, but it is no pledge", again.fieldIs(0, 2), 0);
            Check.due("it is open", again.paperIs(0, 9), 0);
        }
    }

    /** One who owes 1 to one who is dead, and a field that is sold to it, by a law by which all falls and goes back. */
    private static DebtYear underLaw(int shift) {
        DebtYear x = people(9000, 0);
        x.field(0, 5, false);
        Check.rule(x, "1", "1", "0");
        x.shift(0, shift);
        x.paper(3, 1, 50, 400, 0);
        x.die(1);
        return x;
    }

    /** If COUNT of BENCH 0 is 0 then (in THE fiftieth YEAR). */
    private static void theFiftiethYear() {
        int[][] due = {{0, 50}, {1, 49}, {48, 2}, {49, 1}, {25, 25}};
        for (int[] d : due) {
            DebtYear x = underLaw(d[0]);
            Lands.toYear(x, d[1] - 1);
            Check.due("open in the year ahead, shift " + d[0], x.paperIs(0, 9), 0);
            Check.due("held", x.fieldIs(0, 2), 1);
            x.shift(1, 7);
            x.year(0);
            Check.due("left", x.left(0, x.count(4)), 50);
            Check.due("fallen, shift " + d[0], x.paperIs(0, 9), 2);
            Check.due("back, shift " + d[0], x.fieldIs(0, 2), 0);
        }
        DebtYear again = underLaw(0);
        Lands.toYear(again, 50);
        again.person(0, -1, -1, 9000);
        again.paper(3, 2, 50, 400, 0);
        Lands.toYear(again, 99);
        Check.due("open till 99", again.paperIs(1, 9), 0);
        Check.due("held till 99", again.fieldIs(0, 2), 2);
        again.year(0);
        Check.due("fallen in 100", again.paperIs(1, 9), 2);
        Check.due("back in 100", again.fieldIs(0, 2), 0);
        DebtYear last = underLaw(0);
        Lands.toYear(last, 399);
        last.person(0, -1, -1, 9000);
        last.paper(3, 2, 50, 400, 0);
        last.year(0);
        Check.due("fallen in 400", last.paperIs(1, 9), 2);
        DebtYear one = underLaw(1);
        one.shift(1, 0);
        one.shift(0, 2);
        Lands.toYear(one, 47);
        one.shift(0, 10);
        one.shift(1, 2);
        one.year(0);
        Check.due("bench 1's fiftieth year strikes nothing", one.paperIs(0, 9), 0);
    }

    /** Each OPEN PAPER that SURELY FALLS by BENCH 0. */
    private static void surelyAlone() {
        for (int word = 0; word < 3; word++) {
            DebtYear x = people(100, 100);
            Check.text(x, 0, "falls word;back 0;loan 0;");
            Check.text(x, 1, "falls not word;back 0;loan 0;");
            x.force(0, 0, 0);
            x.force(1, 1, 0);
            x.shift(0, 49);
            x.paper(1, 1, 5, 400, 0);
            x.word(0, word);
            int falls = x.falls(0, 0, 1);
            Check.due("falls by word " + word, falls, word == 1 ? 2 : word == 0 ? 0 : 1);
            x.year(0);
            Check.due("fallen by word " + word, x.paperIs(0, 9), falls == 2 ? 2 : 0);
        }
        DebtYear closed = people(100, 100);
        Check.rule(closed, "1", "0", "0");
        closed.shift(0, 49);
        for (int p = 0; p < 3; p++) {
            closed.paper(1, 1, 5, p == 2 ? 0 : 400, 0);
        }
        closed.annul(0);
        closed.pay(1, 5);
        closed.year(0);
        Check.due("a void one stays void", closed.paperIs(0, 9), 3);
        Check.due("a paid one stays paid", closed.paperIs(1, 9), 1);
        Check.due("one that is paid in that year too", closed.paperIs(2, 9), 1);
    }

    /** In THE YEAR, as it is then: one more, and behind all payments. */
    private static void asItIsThen() {
        String[] holds = {"age=3", "left=50", "owed=7 and paid=13"};
        for (String e : holds) {
            DebtYear x = people(10, 100);
            x.shift(0, 47);
            x.paper(1, 1, 20, 2, 0);
            Check.rule(x, e, "0", "0");
            x.year(0);
            x.year(0);
            x.field(0, 23, false);
            Check.due("open", x.count(3), 1);
            x.year(10);
            Check.due(e, x.paperIs(0, 9), 2);
        }
    }

    private static void lawOfThatYear() {
        for (int from = 0; from <= 2; from++) {
            DebtYear x = people(100, 100);
            x.field(0, 5, false);
            x.paper(3, 1, 5, 400, 0);
            x.shift(0, 49);
            Check.text(x, 0, "falls 1;back 1;loan 0;");
            x.force(0, 0, from);
            x.year(0);
            Check.due("in force from " + from, x.paperIs(0, 9), from <= 1 ? 2 : 0);
            Check.due("in force from " + from, x.fieldIs(0, 2), from <= 1 ? 0 : 1);
        }
    }

    /** Each FIELD that goes BACK goes to the least HEIR of its ROOT; without any it stays. */
    private static void fieldsGoBack() {
        DebtYear x = new DebtYear();
        x.person(0, -1, -1, 900);
        for (int p = 1; p <= 3; p++) {
            x.person(0, 0, -1, 900);
        }
        x.person(0, 1, -1, 900);
        x.person(0, -1, -1, 900);
        for (int f = 0; f < 5; f++) {
            x.field(f == 4 ? 5 : 0, 1 + f, f == 1);
        }
        for (int f = 1; f < 4; f++) {
            x.paper(4, f, 5, 400, f);
        }
        x.paper(4, 501, 5, 400, 4);
        x.die(0);
        x.die(1);
        x.die(5);
        x.shift(0, 49);
        Check.rule(x, "0", "walls=0", "0");
        Check.due("heirs", x.heirs(0), 4 + 8 + 16);
        x.year(0);
        int[] holders = {2, 1, 2, 2, 1};
        String[] why = {"from the dead root", "in walls it stays", "the least heir keeps it", "another heir gives it", "no heirs: it stays"};
        for (int f = 0; f < 5; f++) {
            Check.due(why[f], x.fieldIs(f, 2), holders[f]);
        }
        Check.due("the papers are open", x.count(3), 4);
    }

    private static void leastHeirIsTheLastPerson() {
        DebtYear x = people(9, 9, 9, 9, 9, 9, 9, 9, 9, 9, 9, 9);
        x.person(0, 0, -1, 9);
        x.person(0, 12, -1, 9);
        for (int f = 0; f < 8; f++) {
            x.field(0, 1, false);
        }
        x.paper(3, 5, 5, 400, 7);
        x.die(0);
        Check.rule(x, "0", "1", "0");
        x.image();
        x.shift(0, 49);
        x.year(0);
        Check.due("the last but one", x.fieldIs(0, 2), 12);
        Check.due("the last field, too", x.fieldIs(7, 2), 12);
        x.restore();
        x.die(12);
        x.shift(0, 49);
        x.year(0);
        Check.due("the last person", x.fieldIs(0, 2), 13);
        Check.due("the last field, too", x.fieldIs(7, 2), 13);
    }

    /** Up to the last PERSON, FIELD and PAPER. */
    private static void fullLands() {
        DebtYear x = new DebtYear();
        for (int p = 0; p < 14; p++) {
            x.person(0, -1, -1, p == 13 ? 1000 : 29);
            x.fear(p, p == 13 ? 0 : 50);
        }
        for (int f = 0; f < 8; f++) {
            x.field(f == 7 ? 13 : 12, 1 + f, false);
        }
        for (int p = 0; p < 18; p++) {
            x.paper(1, 1, 1, p == 17 ? 0 : 400, 0);
        }
        Check.due("year", x.year(10), 0);
        Check.due("the last field brings 8", x.personIs(13, 2), 1000 + 8 - 10);
        Check.due("the others bring 28", x.personIs(12, 2), 29 + 28 - 10);
        Check.due("the last paper was due", x.paperIs(17, 9), 1);
        Check.due("nobody asks", x.year(0), 0);
        // 0 has 8 then, 1 has 10, 2 to 11 have 9.
        Check.due("two ask for papers, nine for nothing", x.year(0), 9);
        Check.due("papers", x.count(2), 20);
        Check.due("0 asks for 2", x.paperIs(18, 3), 2);
        Check.due("the last one lends", x.paperIs(18, 2), 13);
        Check.due("2 asks for 1", x.paperIs(19, 3), 1);
        x.die(13);
        Check.due("nobody lends", x.year(0), 120);
        Check.rule(x, "1", "1", "0");
        x.shift(0, 45);
        x.year(0);
        Check.due("none is open", x.count(3), 0);
        Check.due("the last field has no heirs", x.fieldIs(7, 2), 13);
        DebtYear poor = people(0, 0, 0, 0, 0, 0, 0, 0, 0, 0, 0, 0, 0, 0);
        Check.due("fourteen hunger", poor.year(30), 140);
        Check.due("no papers", poor.count(2), 0);
    }

    private static void yearsFindings() {
        int[] wrong = {-1, 4, Integer.MIN_VALUE, Integer.MAX_VALUE};
        for (int s : wrong) {
            Twins.keep("sheet " + s, Check.BEYOND, Lands::rich, x -> x.years(s));
        }
        Twins.keep("missing", Check.MISSING, Lands::rich, x -> x.years(3));
        Twins.keep("missing in 400", Check.MISSING, Lands::endOfTime, x -> x.years(3));
        Twins.keep("none go by in 400: no finding", 0, Lands::endOfTime, x -> x.years(0));
        Consumer<DebtYear> noNumbers = x -> {
            Lands.rich(x);
            x.sheet(3, 32, 0);
        };
        Twins.keep("a sheet without numbers", 0, noNumbers, x -> x.years(3));
        Twins.answer("five", 5, Lands::rich, x -> x.years(0));
        Twins.answer("twenty", 20, Lands::rich, x -> x.years(1));
    }

    /** One that is not told as it has to be is as the one ahead (10 at first). */
    private static void yearsTellHarvests() {
        int[] widths = {8, 16, 32};
        int[][] rows = {{0, 30, 31, -1, 5}, {31, 31, 0}, {-1}, {30}, {0}, {40, 20, 99, 1, -128, 127}};
        int[] sums = {0 + 30 + 30 + 30 + 5, 10 + 10 + 0, 10, 30, 0, 10 + 20 + 20 + 1 + 1 + 1};
        for (int bits : widths) {
            for (int k = 0; k < rows.length; k++) {
                DebtYear x = people(1000);
                x.field(0, 10, false);
                x.sheet(2, bits, rows[k].length);
                for (int i = 0; i < rows[k].length; i++) {
                    x.put(2, i, rows[k][i]);
                }
                Check.due("years", x.years(2), rows[k].length);
                Check.due("row " + k + " of " + bits, x.personIs(0, 2), 1000 + sums[k] - 10 * rows[k].length);
            }
        }
        DebtYear anew = people(1000);
        anew.field(0, 10, false);
        anew.sheet(0, 8, 2);
        anew.put(0, 0, 30);
        anew.put(0, 1, -1);
        anew.years(0);
        anew.put(0, 0, 31);
        anew.years(0);
        Check.due("10 at first in each call", anew.personIs(0, 2), 1000 + 60 + 20 - 40);
    }

    /** Till THE YEAR is 400: how many went by. */
    private static void yearsTill400() {
        for (int year = 379; year <= 400; year++) {
            DebtYear x = Lands.in(year);
            x.sheet(0, 8, 20);
            Check.due("from " + year, x.years(0), Math.min(20, 400 - year));
            Check.due("then", x.count(4), Math.min(year + 20, 400));
            Check.due("no finding", x.count(8), 0);
        }
    }

    private static void chainFindings() {
        int[] wrong = {-1, Lands.PAPERS, 19, 20, Integer.MIN_VALUE, Integer.MAX_VALUE};
        for (int p : wrong) {
            Twins.keep("paper " + p, Check.BEYOND, Lands::rich, x -> x.chain(p));
        }
        // 0 owes 60 and has nothing, whichever other one falls.
        for (int p = 0; p < Lands.PAPERS; p++) {
            int paper = p;
            Twins.keep("chain of " + p, p == Lands.SALE ? 0 : 1, Lands::rich, x -> x.chain(paper));
        }
        Twins.keep("no paper at all", Check.BEYOND, Lands::empty, x -> x.chain(0));
    }

    /** Of which more is OWED together than its STORE and what is OWED to it by those who can. */
    private static void moreThanItHas() {
        for (int more = -1; more <= 1; more++) {
            DebtYear x = people(50, 10, 0);
            x.paper(1, 2, 9, 400, 0);
            x.paper(1, 2, 30, 400, 0);
            x.paper(1, 2, 20 + more, 400, 0);
            Check.due("by its store: " + more, x.chain(0), more > 0 ? 1 : 0);
            Check.due("but that one", x.chain(1), 0);
            x.paper(1, 100, 1, 400, 0);
            Check.due("what is owed to it", x.chain(0), 0);
            Check.due("but not by that one", x.chain(3), 1);
            DebtYear y = people(50, 10, 0);
            y.paper(1, 1, 40, 400, 0);
            y.paper(1, 2, 1, 400, 0);
            y.paper(1, 102, 50 + more, 400, 0);
            Check.due("0 can, so 1 has 50: " + more, y.chain(1), more > 0 ? 2 : 0);
            y.paper(1, 2, 20, 400, 0);
            Check.due("0 can't, so 1 has 10", y.chain(1), 1 + 2);
        }
        DebtYear paid = people(50, 10, 0);
        paid.paper(1, 1, 60, 400, 0);
        paid.paper(1, 2, 1, 400, 0);
        Check.due("60 of 50", paid.chain(1), 1);
        paid.pay(0, 10);
        Check.due("what was paid is not owed: 50 of 40", paid.chain(1), 1);
        paid.annul(0);
        Check.due("void: nothing is owed", paid.chain(1), 0);
        Check.due("of a void one", paid.chain(0), 0);
        paid.paper(1, 1, 41, 400, 0);
        Check.due("of a void one, all else as it is", paid.chain(0), 1);
        DebtYear dead = people(50, 10);
        dead.paper(1, 1, 40, 400, 0);
        dead.paper(1, 100, 1, 400, 0);
        dead.die(0);
        Check.due("one who is dead can't", dead.chain(1), 1);
    }

    /** Found from none on, in rounds till nothing changes. */
    private static void longChains() {
        DebtYear x = people(0, 0, 0, 0, 0, 0, 0, 0, 0, 0, 0, 0, 0, 10);
        x.paper(1, 1300, 10, 400, 0);
        for (int p = 0; p < 12; p++) {
            x.paper(1, 100 * p + p + 1, 10, 400, 0);
        }
        for (int paper = 0; paper <= 12; paper++) {
            Check.due("all behind it can't, paper " + paper, x.chain(paper), (1 << 12) - (1 << paper));
        }
        x.paper(1, 1213, 10, 400, 0);
        Check.due("to the last one but one, and who has 10 can", x.chain(0), (1 << 13) - 1);
        DebtYear ring = people(0, 0, 0, 0);
        ring.paper(1, 1, 10, 400, 0);
        ring.paper(1, 102, 10, 400, 0);
        ring.paper(1, 200, 10, 400, 0);
        ring.paper(1, 300, 5, 400, 0);
        Check.due("3 can't; in the ring all can", ring.chain(3), 0);
        Check.due("3 can't, and the rest of the ring", ring.chain(0), 2 + 4 + 8);
    }
}
