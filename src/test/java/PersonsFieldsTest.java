/** Promises 1 to 10. */
public final class PersonsFieldsTest {
    public static void main(String[] args) {
        newObject();
        person();
        personsAreFull();
        livesAndFear();
        die();
        personIs();
        field();
        heirs();
        fiveLives();
        share();
        sharesByRemainingLives();
        Check.end();
    }

    private static void newObject() {
        DebtYear x = new DebtYear();
        for (int what = 0; what <= 8; what++) {
            Check.due("count(" + what + ")", x.count(what), 0);
        }
        Check.due("law(0, 400)", x.law(0, 400), Check.NONE);
        Check.due("left(0, 0)", x.left(0, 0), 50);
        Check.due("left(1, 0)", x.left(1, 0), 50);
        for (int s = 0; s < 4; s++) {
            Check.due("put", x.put(s, 0, 0), Check.MISSING);
        }
        for (int t = 0; t < 5; t++) {
            Check.due("force", x.force(t, 0, 0), Check.NONE);
        }
        Check.due("restore", x.restore(), Check.NONE);
        Check.due("personIs", x.personIs(0, 0), Check.BEYOND);
        Check.due("fieldIs", x.fieldIs(0, 0), Check.BEYOND);
        Check.due("paperIs", x.paperIs(0, 0), Check.BEYOND);
    }

    private static void person() {
        DebtYear x = new DebtYear();
        Check.due("birth -100", x.person(-100, -1, -1, 0), Check.BEYOND);
        Check.due("birth 1 in year 0", x.person(1, -1, -1, 0), Check.BEYOND);
        Check.due("parent 0 of none", x.person(0, 0, -1, 0), Check.BEYOND);
        Check.due("birth -99", x.person(-99, -1, -1, 9999), 0);
        Check.due("itself a parent", x.person(0, -1, 1, 0), Check.BEYOND);
        Check.due("parent -2", x.person(0, -2, -1, 0), Check.BEYOND);
        Check.due("parent -2", x.person(0, -1, -2, 0), Check.BEYOND);
        Check.due("one parent twice", x.person(0, 0, 0, 0), Check.BEYOND);
        Check.due("store -1", x.person(0, 0, -1, -1), Check.BEYOND);
        Check.due("store 10000", x.person(0, 0, -1, 10000), Check.BEYOND);
        Check.due("one parent", x.person(0, -1, 0, 0), 1);
        Check.due("two parents", x.person(-5, 1, 0, 0), 2);
        Check.due("count(0)", x.count(0), 3);
        Check.due("birth", x.personIs(0, 0), -99);
        Check.due("store", x.personIs(0, 2), 9999);

        DebtYear late = new DebtYear();
        late.sheet(0, 8, 20);
        for (int i = 0; i < 16; i++) {
            late.years(0);
        }
        Check.due("year", late.count(4), 320);
        Check.due("birth 301", late.person(301, -1, -1, 0), Check.BEYOND);
        Check.due("birth 300", late.person(300, -1, -1, 0), 0);
    }

    private static void personsAreFull() {
        DebtYear x = new DebtYear();
        for (int i = 0; i < 14; i++) {
            Check.due("person " + i, x.person(0, -1, -1, 0), i);
        }
        Check.due("a fifteenth", x.person(0, -1, -1, 0), Check.FULL);
        Check.due("BEYOND is asked ahead of FULL", x.person(0, 14, -1, 0), Check.BEYOND);
    }

    private static void livesAndFear() {
        DebtYear x = new DebtYear();
        Check.due("lives", x.lives(0, true, true), Check.BEYOND);
        Check.due("fear", x.fear(0, 3), Check.BEYOND);
        x.person(0, -1, -1, 100);
        x.person(0, -1, -1, 0);
        Check.due("lives", x.lives(0, true, false), 1);
        Check.due("lives", x.lives(-1, true, true), Check.BEYOND);
        Check.due("lives", x.lives(2, true, true), Check.BEYOND);
        x.paper(1, 1, 5, 0, 0);
        x.field(1, 3, true);
        Check.rule(x, "stranger", "stranger", "walls");
        Check.due("a stranger's paper falls", x.falls(0, 0, 0), 2);
        x.lives(0, false, true);
        Check.due("one in walls is no stranger", x.falls(0, 0, 0), 0);
        Check.due("persons' walls are not the field's", x.truly(0, 0, 0), 0);
        x.lives(1, true, false);
        Check.due("TO is a stranger", x.falls(0, 0, 0), 2);

        Check.due("fear at first", x.fear(0, 0), 3);
        Check.due("fear", x.fear(0, 50), 0);
        Check.due("fear", x.fear(0, 51), Check.BEYOND);
        Check.due("fear", x.fear(0, -1), Check.BEYOND);
        Check.due("fear", x.fear(0, 7), 50);
        Check.due("fear", x.fear(2, 7), Check.BEYOND);
    }

    private static void die() {
        DebtYear x = new DebtYear();
        Check.due("die", x.die(0), Check.BEYOND);
        x.person(0, -1, -1, 77);
        x.person(0, -1, -1, 5);
        Check.due("since when", x.personIs(0, 1), -1);
        x.year(0);
        Check.due("die", x.die(0), 67 - 5);
        Check.due("die", x.die(0), Check.TAKEN);
        Check.due("since when", x.personIs(0, 1), 1);
        Check.due("store", x.personIs(0, 2), 0);
        Check.due("lost", x.count(7), 62);
        Check.due("not dead", x.count(0), 1);
        Check.due("die", x.die(-1), Check.BEYOND);
        Check.due("die", x.die(2), Check.BEYOND);
    }

    private static void personIs() {
        DebtYear x = new DebtYear();
        x.person(-3, -1, -1, 100);
        x.person(-2, 0, -1, 50);
        x.person(-1, 0, 1, 7);
        x.field(0, 10, false);
        x.field(1, 10, false);
        x.field(0, 10, false);
        x.paper(6, 1, 30, 9, 0);
        x.paper(1, 2, 5, 9, 0);
        x.paper(5, 201, 6, 9, 0);
        x.pay(0, 10);
        Check.due("0", x.personIs(1, 0), -2);
        Check.due("1", x.personIs(1, 1), -1);
        Check.due("2", x.personIs(1, 2), 60);
        Check.due("3", x.personIs(0, 3), 1);
        Check.due("3", x.personIs(1, 3), -1);
        Check.due("4", x.personIs(0, 4), 25);
        Check.due("4", x.personIs(2, 4), 6);
        Check.due("5", x.personIs(1, 5), 26);
        Check.due("5", x.personIs(2, 5), 5);
        Check.due("6", x.personIs(2, 6), 0);
        Check.due("7", x.personIs(0, 7), 5);
        Check.due("7", x.personIs(1, 7), 2);
        Check.due("7", x.personIs(2, 7), 0);
        x.annul(0);
        Check.due("4 of open ones alone", x.personIs(0, 4), 5);
        Check.due("5 of open ones alone", x.personIs(1, 5), 6);
        x.fear(0, 50);
        x.fear(1, 50);
        x.year(0);
        Check.due("6", x.personIs(2, 6), 3);
        x.year(0);
        Check.due("6 in all", x.personIs(2, 6), 13);
        Check.due("no such person", x.personIs(3, 0), Check.BEYOND);
        Check.due("no such person", x.personIs(-1, 0), Check.BEYOND);
        Check.due("another what", x.personIs(0, 8), Check.BEYOND);
        Check.due("another what", x.personIs(0, -1), Check.BEYOND);
    }

    private static void field() {
        DebtYear x = new DebtYear();
        Check.due("no root", x.field(0, 5, false), Check.BEYOND);
        x.person(0, -1, -1, 0);
        x.person(0, -1, -1, 0);
        Check.due("no root", x.field(-1, 5, false), Check.BEYOND);
        Check.due("worth 0", x.field(0, 0, false), Check.BEYOND);
        Check.due("worth 100", x.field(0, 100, false), Check.BEYOND);
        Check.due("field", x.field(1, 99, true), 0);
        Check.due("field", x.field(0, 1, false), 1);
        Check.due("worth", x.fieldIs(0, 0), 99);
        Check.due("root", x.fieldIs(0, 1), 1);
        Check.due("holder", x.fieldIs(0, 2), 1);
        Check.due("walls", x.fieldIs(0, 3), 1);
        Check.due("walls", x.fieldIs(1, 3), 0);
        x.paper(3, 1, 5, 9, 1);
        Check.due("root stays", x.fieldIs(1, 1), 0);
        Check.due("holder", x.fieldIs(1, 2), 1);
        Check.due("another what", x.fieldIs(0, 4), Check.BEYOND);
        Check.due("another what", x.fieldIs(0, -1), Check.BEYOND);
        Check.due("no such field", x.fieldIs(2, 0), Check.BEYOND);
        Check.due("no such field", x.fieldIs(-1, 0), Check.BEYOND);
        x.die(0);
        for (int i = 2; i < 8; i++) {
            Check.due("a dead one's field", x.field(0, 1, false), i);
        }
        Check.due("a ninth", x.field(0, 1, false), Check.FULL);
        Check.due("BEYOND is asked ahead of FULL", x.field(0, 0, false), Check.BEYOND);
        Check.due("count(1)", x.count(1), 8);
    }

    private static void heirs() {
        DebtYear x = new DebtYear();
        Check.due("heirs", x.heirs(0), Check.BEYOND);
        x.person(0, -1, -1, 0);
        x.person(0, 0, -1, 0);
        x.person(0, -1, 0, 0);
        x.person(0, 1, -1, 0);
        Check.due("alive: itself alone", x.heirs(0), 1);
        x.die(0);
        Check.due("children", x.heirs(0), 6);
        x.die(1);
        Check.due("a dead child's children", x.heirs(0), 12);
        x.die(3);
        Check.due("a line that ended", x.heirs(0), 4);
        Check.due("no heirs", x.heirs(3), 0);
        x.die(2);
        Check.due("no heirs at all", x.heirs(0), 0);
        Check.due("heirs", x.heirs(-1), Check.BEYOND);
        Check.due("heirs", x.heirs(4), Check.BEYOND);
    }

    private static void fiveLives() {
        DebtYear x = new DebtYear();
        x.person(0, -1, -1, 0);
        for (int i = 1; i < 8; i++) {
            x.person(0, i - 1, -1, 0);
        }
        for (int i = 0; i < 5; i++) {
            x.die(i);
        }
        Check.due("the fifth life", x.heirs(0), 1 << 5);
        Check.due("the fifth life's share", x.share(0, 5), 1);
        x.die(5);
        Check.due("the sixth life", x.heirs(0), 0);
        Check.due("the sixth life's share", x.share(0, 6), Check.NONE);
        Check.due("five lives from one on", x.heirs(1), 1 << 6);
        x.die(6);
        Check.due("six lives from one on", x.heirs(1), 0);
        Check.due("five lives from two on", x.heirs(2), 1 << 7);
    }

    private static void share() {
        DebtYear x = new DebtYear();
        x.person(0, -1, -1, 0);
        x.person(0, 0, -1, 0);
        x.person(0, 0, -1, 0);
        x.person(0, 0, -1, 0);
        x.person(0, 1, -1, 0);
        x.person(0, 1, 2, 0);
        x.person(0, 1, -1, 0);
        Check.due("of itself", x.share(0, 0), 1);
        Check.due("of another one", x.share(0, 1), Check.NONE);
        x.die(0);
        Check.due("of three", x.share(0, 3), 3);
        x.die(1);
        Check.due("of three of three", x.share(0, 5), 9);
        x.die(2);
        Check.due("by two ways the least", x.share(0, 5), 3);
        Check.due("by one way", x.share(0, 6), 9);
        x.die(3);
        Check.due("who has no heirs does not share", x.share(0, 5), 2);
        Check.due("who has no heirs does not share", x.share(0, 4), 6);
        Check.due("dead", x.share(0, 3), Check.NONE);
        Check.due("no such heir", x.share(0, 7), Check.BEYOND);
        Check.due("no such heir", x.share(0, -1), Check.BEYOND);
        Check.due("no such person", x.share(7, 0), Check.BEYOND);
        Check.due("no such person", x.share(-1, 0), Check.BEYOND);
    }

    /** Whether a child has heirs is asked with the lives that are left, not with five anew. */
    private static void sharesByRemainingLives() {
        DebtYear x = new DebtYear();
        x.person(0, -1, -1, 0);
        for (int i = 1; i <= 6; i++) {
            x.person(0, i - 1, -1, 0);
        }
        x.person(0, 0, -1, 0);
        for (int i = 0; i <= 5; i++) {
            x.die(i);
        }
        Check.due("heirs of 0", x.heirs(0), 1 << 7);
        Check.due("heirs of 1", x.heirs(1), 1 << 6);
        Check.due("one alone shares", x.share(0, 7), 1);
        x.person(0, 1, -1, 0);
        Check.due("heirs of 0", x.heirs(0), (1 << 7) + (1 << 8));
        Check.due("two share, then one alone", x.share(0, 8), 2);
        Check.due("two share from one on", x.share(1, 8), 2);
    }
}
