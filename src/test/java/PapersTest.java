/** Promises 11 to 16. */
public final class PapersTest {
    public static void main(String[] args) {
        findingsOfPaper();
        papersAreFull();
        things();
        served();
        kinds();
        word();
        pay();
        payToWhoCannotTake();
        paidSales();
        annul();
        paperIs();
        Check.end();
    }

    private static DebtYear three() {
        DebtYear x = new DebtYear();
        x.person(0, -1, -1, 100);
        x.person(0, -1, -1, 200);
        x.person(0, -1, -1, 300);
        x.field(0, 10, false);
        x.field(1, 20, true);
        return x;
    }

    private static void findingsOfPaper() {
        DebtYear x = three();
        x.year(0);
        x.year(0);
        Check.due("kind -1", x.paper(-1, 1, 5, 9, 0), Check.BEYOND);
        Check.due("kind 7", x.paper(7, 1, 5, 9, 0), Check.BEYOND);
        Check.due("who -1", x.paper(1, -1, 5, 9, 0), Check.BEYOND);
        Check.due("who -100", x.paper(1, -100, 5, 9, 0), Check.BEYOND);
        Check.due("who 3", x.paper(1, 3, 5, 9, 0), Check.BEYOND);
        Check.due("who 300", x.paper(1, 300, 5, 9, 0), Check.BEYOND);
        Check.due("who least", x.paper(1, Integer.MIN_VALUE, 5, 9, 0), Check.BEYOND);
        Check.due("sum 0", x.paper(1, 1, 0, 9, 0), Check.BEYOND);
        Check.due("sum 10000", x.paper(1, 1, 10000, 9, 0), Check.BEYOND);
        Check.due("due ahead of the year", x.paper(1, 1, 5, 1, 0), Check.BEYOND);
        Check.due("due 401", x.paper(1, 1, 5, 401, 0), Check.BEYOND);
        Check.due("they are one", x.paper(1, 101, 5, 9, 0), Check.SIZE);
        Check.due("they are one", x.paper(1, 0, 5, 9, 0), Check.SIZE);
        Check.due("BEYOND ahead of SIZE", x.paper(1, 101, 0, 9, 0), Check.BEYOND);
        Check.due("due in the year", x.paper(1, 1, 9999, 2, -7), 0);
        Check.due("due in 400", x.paper(0, 201, 1, 400, 99), 1);
        x.die(2);
        Check.due("BY is dead", x.paper(1, 201, 5, 9, 0), Check.NONE);
        Check.due("TO is dead", x.paper(1, 102, 5, 9, 0), Check.NONE);
        Check.due("SIZE ahead of NONE", x.paper(1, 202, 5, 9, 0), Check.SIZE);
        Check.due("NONE ahead of MISSING", x.paper(2, 102, 5, 9, 9), Check.NONE);
        Check.due("papers", x.count(2), 2);
        Check.due("a finding gives no field away", x.fieldIs(1, 2), 1);
    }

    private static void papersAreFull() {
        DebtYear x = three();
        for (int i = 0; i < 20; i++) {
            Check.due("paper", x.paper(i % 2 * 5, 1, 1, 0, 0), i);
        }
        Check.due("a twenty-first", x.paper(1, 1, 1, 0, 0), Check.FULL);
        Check.due("MISSING ahead of FULL", x.paper(2, 1, 1, 0, 1), Check.MISSING);
        Check.due("a sale when full", x.paper(3, 1, 1, 0, 0), Check.FULL);
        Check.due("gives nothing", x.fieldIs(0, 2), 0);
        Check.due("a served when full", x.paper(6, 1, 1, 0, 0), Check.FULL);
        Check.due("makes nobody serve", x.personIs(0, 3), -1);

        DebtYear y = three();
        y.paper(6, 1, 1, 0, 0);
        for (int i = 1; i < 20; i++) {
            y.paper(0, 1, 1, 0, 0);
        }
        Check.due("TAKEN ahead of FULL", y.paper(6, 1, 1, 0, 0), Check.TAKEN);
    }

    private static void things() {
        DebtYear x = three();
        for (int kind = 2; kind <= 4; kind++) {
            Check.due("another one's field", x.paper(kind, 1, 5, 9, 1), Check.MISSING);
            Check.due("no such field", x.paper(kind, 1, 5, 9, 2), Check.MISSING);
            Check.due("no such field", x.paper(kind, 1, 5, 9, -1), Check.MISSING);
        }
        Check.due("pledge", x.paper(2, 1, 5, 9, 0), 0);
        Check.due("a pledge stays with BY", x.fieldIs(0, 2), 0);
        Check.due("its thing", x.paperIs(0, 7), 0);
        Check.due("sale", x.paper(3, 1, 5, 9, 0), 1);
        Check.due("a sale goes to TO", x.fieldIs(0, 2), 1);
        Check.due("who sold it has it no more", x.paper(3, 2, 5, 9, 0), Check.MISSING);
        Check.due("gift", x.paper(4, 102, 5, 9, 0), 2);
        Check.due("a gift goes to TO", x.fieldIs(0, 2), 2);
        Check.due("its thing", x.paperIs(2, 7), 0);
        int[] without = {0, 1, 5, 6};
        for (int i = 0; i < without.length; i++) {
            Check.due("no field needed", x.paper(without[i], 201, 5, 9, 1), 3 + i);
            Check.due("no thing", x.paperIs(3 + i, 7), -1);
        }
        Check.due("nothing else moved", x.fieldIs(1, 2), 1);
    }

    private static void served() {
        DebtYear x = three();
        Check.due("served", x.paper(6, 1, 5, 9, 0), 0);
        Check.due("serves", x.personIs(0, 3), 1);
        Check.due("TO is free", x.personIs(1, 3), -1);
        Check.due("serves already", x.paper(6, 2, 5, 9, 0), Check.TAKEN);
        Check.due("may owe otherwise", x.paper(1, 2, 5, 9, 0), 1);
        Check.due("TO may serve too", x.paper(6, 102, 5, 9, 0), 2);
        Check.due("pay some", x.pay(0, 4), 1);
        Check.due("serves still", x.personIs(0, 3), 1);
        Check.due("pay all", x.pay(0, 1), 0);
        Check.due("free", x.personIs(0, 3), -1);
        Check.due("another one serves still", x.personIs(1, 3), 2);
        Check.due("serves anew", x.paper(6, 2, 5, 9, 0), 3);
        Check.due("serves", x.personIs(0, 3), 2);
        Check.due("annul another paper", x.annul(1), 5);
        Check.due("serves still", x.personIs(0, 3), 2);
        Check.due("annul", x.annul(3), 5);
        Check.due("free", x.personIs(0, 3), -1);
        Check.due("serves 0", x.paper(6, 200, 5, 9, 0), 4);
        Check.due("serves 0 already", x.paper(6, 201, 5, 9, 0), Check.TAKEN);
    }

    private static void kinds() {
        DebtYear x = three();
        int[] things = {0, 0, 0, 0, 1, 0, 0};
        int[] who = {1, 1, 1, 2, 102, 1, 1};
        // As which kinds each one goes, as bits.
        int[] as = {0b1, 0b11, 0b111, 0b1001, 0b11001, 0b100001, 0b1000111};
        for (int kind = 0; kind < 7; kind++) {
            Check.due("paper", x.paper(kind, who[kind], 5, 9, things[kind]), kind);
            for (int k = 0; k < 7; k++) {
                Check.due("as(" + kind + ", " + k + ")", x.as(kind, k), (as[kind] >> k & 1) == 1 ? kind : Check.KIND);
            }
        }
        Check.due("no such kind", x.as(0, 7), Check.BEYOND);
        Check.due("no such kind", x.as(0, -1), Check.BEYOND);
        Check.due("no such paper", x.as(7, 0), Check.BEYOND);
        Check.due("no such paper", x.as(-1, 0), Check.BEYOND);
    }

    private static void word() {
        DebtYear x = three();
        Check.due("no such paper", x.word(0, 0), Check.BEYOND);
        x.paper(1, 1, 5, 9, 0);
        Check.due("at first", x.word(0, 0), 2);
        Check.due("then", x.word(0, 1), 0);
        Check.due("3", x.word(0, 3), Check.BEYOND);
        Check.due("-1", x.word(0, -1), Check.BEYOND);
        Check.due("then", x.word(0, 2), 1);
        Check.due("it is", x.paperIs(0, 8), 2);
        Check.due("no such paper", x.word(1, 0), Check.BEYOND);
        Check.due("no such paper", x.word(-1, 0), Check.BEYOND);
    }

    private static void pay() {
        DebtYear x = three();
        Check.due("no such paper", x.pay(0, 1), Check.BEYOND);
        x.paper(1, 1, 150, 9, 0);
        Check.due("no such paper", x.pay(1, 1), Check.BEYOND);
        Check.due("no such paper", x.pay(-1, 1), Check.BEYOND);
        Check.due("0", x.pay(0, 0), Check.BEYOND);
        Check.due("10000", x.pay(0, 10000), Check.BEYOND);
        Check.due("SIZE ahead of MISSING", x.pay(0, 151), Check.SIZE);
        Check.due("more than it has", x.pay(0, 101), Check.MISSING);
        Check.due("all it has", x.pay(0, 100), 50);
        Check.due("store", x.personIs(0, 2), 0);
        Check.due("store", x.personIs(1, 2), 300);
        Check.due("paid", x.paperIs(0, 4), 100);
        Check.due("open", x.paperIs(0, 9), 0);
        x.paper(1, 200, 60, 9, 0);
        x.pay(1, 60);
        Check.due("the rest", x.pay(0, 50), 0);
        Check.due("it is paid", x.paperIs(0, 9), 1);
        Check.due("not open", x.pay(0, 50), Check.NONE);
        Check.due("BEYOND ahead of NONE", x.pay(0, 0), Check.BEYOND);
        x.paper(1, 1, 5, 9, 0);
        x.annul(2);
        Check.due("void", x.pay(2, 1), Check.NONE);
        x.paper(1, 1, 5, 9, 0);
        x.die(0);
        Check.due("a dead one has nothing", x.pay(3, 1), Check.MISSING);
    }

    private static void payToWhoCannotTake() {
        DebtYear x = new DebtYear();
        x.person(0, -1, -1, 5000);
        x.person(0, -1, -1, 9000);
        x.person(0, -1, -1, 7);
        x.paper(1, 1, 1500, 9, 0);
        x.paper(1, 2, 30, 9, 0);
        Check.due("above 9999 is lost", x.pay(0, 1500), 0);
        Check.due("store", x.personIs(1, 2), 9999);
        Check.due("lost", x.count(7), 501);
        x.die(2);
        Check.due("lost", x.count(7), 508);
        Check.due("to the dead", x.pay(1, 30), 0);
        Check.due("store", x.personIs(0, 2), 3470);
        Check.due("store", x.personIs(2, 2), 0);
        Check.due("lost", x.count(7), 538);
        Check.due("paid", x.paperIs(1, 9), 1);
    }

    private static void paidSales() {
        DebtYear x = three();
        x.paper(3, 1, 20, 9, 0);
        x.paper(4, 100, 30, 9, 1);
        Check.due("some", x.pay(0, 19), 1);
        Check.due("TO holds it still", x.fieldIs(0, 2), 1);
        Check.due("all", x.pay(0, 1), 0);
        Check.due("it comes back", x.fieldIs(0, 2), 0);
        Check.due("all of the gift", x.pay(1, 30), 0);
        Check.due("it comes back", x.fieldIs(1, 2), 1);
        x.paper(3, 1, 20, 9, 0);
        x.paper(3, 102, 20, 9, 0);
        Check.due("paid, but another one holds it", x.pay(2, 20), 0);
        Check.due("it stays", x.fieldIs(0, 2), 2);
        x.paper(2, 100, 5, 9, 1);
        Check.due("a pledge that is paid", x.pay(4, 5), 0);
        Check.due("moves nothing", x.fieldIs(1, 2), 1);
    }

    private static void annul() {
        DebtYear x = three();
        Check.due("no such paper", x.annul(0), Check.BEYOND);
        x.paper(3, 1, 20, 9, 0);
        x.pay(0, 5);
        Check.due("annul", x.annul(0), 15);
        Check.due("void", x.paperIs(0, 9), 3);
        Check.due("a void sale's field stays", x.fieldIs(0, 2), 1);
        Check.due("what was paid stays paid", x.paperIs(0, 4), 5);
        Check.due("not open", x.annul(0), Check.NONE);
        Check.due("no such paper", x.annul(1), Check.BEYOND);
        Check.due("no such paper", x.annul(-1), Check.BEYOND);
    }

    private static void paperIs() {
        DebtYear x = three();
        x.year(0);
        x.paper(2, 102, 44, 7, 1);
        x.pay(0, 4);
        x.word(0, 1);
        int[] due = {2, 1, 2, 44, 4, 1, 7, 1, 1, 0};
        for (int what = 0; what < 10; what++) {
            Check.due("paperIs(0, " + what + ")", x.paperIs(0, what), due[what]);
        }
        Check.due("another what", x.paperIs(0, 10), Check.BEYOND);
        Check.due("another what", x.paperIs(0, -1), Check.BEYOND);
        Check.due("no such paper", x.paperIs(1, 0), Check.BEYOND);
        Check.due("no such paper", x.paperIs(-1, 0), Check.BEYOND);
    }
}
