import java.util.function.Consumer;

/** The boundaries and findings of Terms 1 and promises 1 to 10, a test of each side of each. */
public final class PersonsFieldsEdgesTest {
    private static final int[] NO_PERSON = {-1, Lands.PERSONS, 13, 14, Integer.MIN_VALUE, Integer.MAX_VALUE};
    private static final int[] NO_FIELD = {-1, Lands.FIELDS, 7, 8, Integer.MIN_VALUE, Integer.MAX_VALUE};

    public static void main(String[] args) {
        newObject();
        births();
        birthsByTheYear();
        parents();
        stores();
        fourteenPersons();
        beyondAheadOfFullPersons();
        newPerson();
        lives();
        fear();
        die();
        personIs();
        fields();
        eightFields();
        fieldIs();
        heirsAndShareFindings();
        fifthLife();
        fifthLifeByTwoWays();
        whoHasHeirsShares();
        leastOfSeveralWays();
        setsAreBits();
        Check.end();
    }

    /** Promise 1: no PERSONS, FIELDS, PAPERS, LAWS; YEAR 0; sheets MISSING. */
    private static void newObject() {
        for (int what = 0; what <= 8; what++) {
            int w = what;
            Twins.keep("count(" + what + ")", 0, Lands::empty, x -> x.count(w));
        }
        Twins.keep("no person", Check.BEYOND, Lands::empty, x -> x.personIs(0, 0));
        Twins.keep("no field", Check.BEYOND, Lands::empty, x -> x.fieldIs(0, 0));
        Twins.keep("no paper", Check.BEYOND, Lands::empty, x -> x.paperIs(0, 0));
        for (int bench = 0; bench < 2; bench++) {
            int b = bench;
            Twins.keep("no law", Check.NONE, Lands::empty, x -> x.law(b, 0));
            Twins.keep("no law", Check.NONE, Lands::empty, x -> x.law(b, 400));
            Twins.answer("shift at first", 0, Lands::empty, x -> x.shift(b, 1));
            Twins.keep("left at first", 50, Lands::empty, x -> x.left(b, 0));
        }
        for (int s = 0; s < 4; s++) {
            int sheet = s;
            Twins.keep("put", Check.MISSING, Lands::empty, x -> x.put(sheet, 0, 0));
            Twins.keep("years", Check.MISSING, Lands::empty, x -> x.years(sheet));
            Twins.keep("proves", Check.MISSING, Lands::empty, x -> x.proves(0, 0, 0, sheet));
            Twins.keep("copy", Check.MISSING, Lands::empty, x -> x.copy(sheet, 0, sheet, 0, 0));
        }
        for (int t = 0; t < 5; t++) {
            int text = t;
            Twins.keep("no text", Check.NONE, Lands::empty, x -> x.force(text, 0, 0));
        }
        Twins.keep("no image", Check.NONE, Lands::empty, DebtYear::restore);
        Twins.answer("an empty tape", 1, Lands::empty, x -> x.feed(1, 0));
        Twins.answer("the first person", 0, Lands::empty, x -> x.person(0, -1, -1, 0));
    }

    private static void person(String what, int want, int birth, int one, int two, int store) {
        if (want == Check.BEYOND) {
            Twins.keep(what, want, Lands::rich, x -> x.person(birth, one, two, store));
        } else {
            Twins.answer(what, want, Lands::rich, x -> x.person(birth, one, two, store));
        }
    }

    /** BIRTH (a year, -99 to 300, not above THE YEAR). */
    private static void births() {
        person("birth -100", Check.BEYOND, -100, -1, -1, 0);
        person("birth -99", Lands.PERSONS, -99, -1, -1, 0);
        person("birth in THE YEAR", Lands.PERSONS, Lands.YEAR, -1, -1, 0);
        person("birth above THE YEAR", Check.BEYOND, Lands.YEAR + 1, -1, -1, 0);
        person("least birth", Check.BEYOND, Integer.MIN_VALUE, -1, -1, 0);
        person("greatest birth", Check.BEYOND, Integer.MAX_VALUE, -1, -1, 0);
    }

    private static void birthsByTheYear() {
        int[] years = {299, 300, 301, 400};
        for (int year : years) {
            int last = Math.min(300, year);
            Check.due("birth " + last + " in " + year, Lands.in(year).person(last, -1, -1, 0), 0);
            DebtYear x = Lands.in(year);
            Check.due("birth " + (last + 1) + " in " + year, x.person(last + 1, -1, -1, 0), Check.BEYOND);
            Check.due("nobody was born", x.count(0), 0);
        }
        Twins.keep("birth 301 in 400", Check.BEYOND, Lands::endOfTime, x -> x.person(301, -1, -1, 0));
        Twins.answer("birth 300 in 400", Lands.PERSONS, Lands::endOfTime, x -> x.person(300, -1, -1, 0));
    }

    /** Two PARENTS (each a lesser PERSON, or none; not the same). */
    private static void parents() {
        int[] wrong = {-2, Lands.PERSONS, 13, Integer.MIN_VALUE, Integer.MAX_VALUE};
        for (int p : wrong) {
            person("one " + p, Check.BEYOND, 0, p, -1, 0);
            person("two " + p, Check.BEYOND, 0, -1, p, 0);
            person("one " + p, Check.BEYOND, 0, p, 0, 0);
            person("two " + p, Check.BEYOND, 0, 0, p, 0);
            person("both " + p, Check.BEYOND, 0, p, p, 0);
        }
        for (int p = 0; p < Lands.PERSONS; p++) {
            person("one " + p, Lands.PERSONS, 0, p, -1, 0);
            person("two " + p, Lands.PERSONS, 0, -1, p, 0);
            person("both " + p, Check.BEYOND, 0, p, p, 0);
        }
        person("none", Lands.PERSONS, 0, -1, -1, 0);
        person("the first and the last one", Lands.PERSONS, 0, 0, Lands.PERSONS - 1, 0);
        person("the last and the first one", Lands.PERSONS, 0, Lands.PERSONS - 1, 0, 0);
        Twins.keep("the first person has none", Check.BEYOND, Lands::empty, x -> x.person(0, 0, -1, 0));
    }

    /** A STORE (0 to 9999 measures). */
    private static void stores() {
        person("store -1", Check.BEYOND, 0, -1, -1, -1);
        person("store 0", Lands.PERSONS, 0, -1, -1, 0);
        person("store 9999", Lands.PERSONS, 0, -1, -1, 9999);
        person("store 10000", Check.BEYOND, 0, -1, -1, 10000);
        person("least store", Check.BEYOND, 0, -1, -1, Integer.MIN_VALUE);
        person("greatest store", Check.BEYOND, 0, -1, -1, Integer.MAX_VALUE);
        DebtYear x = new DebtYear();
        x.person(0, -1, -1, 9999);
        Check.due("all of it", x.personIs(0, 2), 9999);
        Check.due("nothing was lost", x.count(7), 0);
    }

    /** PERSONS 0, 1, .. (at most 14); who is DEAD is one of them. */
    private static void fourteenPersons() {
        Consumer<DebtYear> thirteen = x -> {
            Lands.rich(x);
            for (int i = Lands.PERSONS; i < 13; i++) {
                Check.due("person", x.person(0, -1, -1, 0), i);
            }
        };
        Twins.answer("the fourteenth", 13, thirteen, x -> x.person(0, 12, 11, 0));
        Twins.keep("the fourteenth's parent", Check.BEYOND, thirteen, x -> x.person(0, 13, -1, 0));
        Twins.keep("a fifteenth", Check.FULL, Lands::fullOfPersons, x -> x.person(0, -1, -1, 0));
        Twins.keep("a fifteenth with parents", Check.FULL, Lands::fullOfPersons, x -> x.person(-99, 12, 13, 9999));
        DebtYear x = Twins.of(Lands::fullOfPersons);
        x.person(0, -1, -1, 0);
        Check.due("the last person's store", x.personIs(13, 2), 7);
        Check.due("no fifteenth", x.personIs(14, 2), Check.BEYOND);
    }

    private static void beyondAheadOfFullPersons() {
        int[][] wrong = {{-100, -1, -1, 0}, {Lands.YEAR + 1, -1, -1, 0}, {0, -2, -1, 0}, {0, 14, -1, 0}, {0, -1, -2, 0},
            {0, -1, 14, 0}, {0, 3, 3, 0}, {0, -1, -1, -1}, {0, -1, -1, 10000}};
        for (int[] a : wrong) {
            Twins.keep("BEYOND ahead of FULL", Check.BEYOND, Lands::fullOfPersons, x -> x.person(a[0], a[1], a[2], a[3]));
        }
    }

    /** FEAR 3 at first, FREE, not DEAD, no STRANGER, has not HUNGERED. */
    private static void newPerson() {
        DebtYear x = new DebtYear();
        x.person(-7, -1, -1, 33);
        int[] is = {-7, -1, 33, -1, 0, 0, 0, 0};
        for (int what = 0; what < 8; what++) {
            Check.due("personIs(0, " + what + ")", x.personIs(0, what), is[what]);
        }
        Check.due("fear", x.fear(0, 3), 3);
        x.person(0, -1, -1, 0);
        x.paper(1, 1, 5, 9, 0);
        Check.rule(x, "stranger", "0", "0");
        Check.due("no stranger", x.falls(0, 0, 0), 0);
    }

    private static void lives() {
        for (int p : NO_PERSON) {
            Twins.keep("lives " + p, Check.BEYOND, Lands::rich, x -> x.lives(p, true, true));
        }
        for (int p = 0; p < Lands.PERSONS; p++) {
            int person = p;
            for (int how = 0; how < 4; how++) {
                boolean stranger = how % 2 == 1;
                boolean walls = how / 2 == 1;
                Twins.answer("lives " + p, 1, Lands::rich, x -> x.lives(person, stranger, walls));
            }
        }
        Twins.keep("as it is", 1, Lands::rich, x -> x.lives(Lands.STRANGER, true, false));
        Twins.keep("lives in walls", 1, Lands::rich, x -> x.lives(1, false, true));
    }

    /** A FEAR (0 to 50; 3 at first). */
    private static void fear() {
        for (int p : NO_PERSON) {
            Twins.keep("fear of " + p, Check.BEYOND, Lands::rich, x -> x.fear(p, 3));
        }
        int[] wrong = {-1, 51, Integer.MIN_VALUE, Integer.MAX_VALUE};
        for (int v : wrong) {
            Twins.keep("fear " + v, Check.BEYOND, Lands::rich, x -> x.fear(1, v));
        }
        DebtYear x = Twins.of(Lands::rich);
        Check.due("fear", x.fear(1, 0), 20);
        Check.due("fear", x.fear(1, 50), 0);
        Check.due("fear", x.fear(1, 51), Check.BEYOND);
        Check.due("fear", x.fear(1, -1), Check.BEYOND);
        Check.due("fear", x.fear(1, 3), 50);
        Check.due("a dead one's fear", x.fear(Lands.DEAD, 1), 3);
        Check.due("the last one's fear", x.fear(Lands.PERSONS - 1, 1), 3);
        Twins.keep("the fear that it has", 20, Lands::rich, y -> y.fear(1, 20));
    }

    private static void die() {
        for (int p : NO_PERSON) {
            Twins.keep("die " + p, Check.BEYOND, Lands::rich, x -> x.die(p));
        }
        Twins.keep("it is dead", Check.TAKEN, Lands::rich, x -> x.die(Lands.DEAD));
        Twins.keep("the last one is dead", Check.TAKEN, Lands::rich, x -> x.die(Lands.PERSONS - 1));
        DebtYear x = new DebtYear();
        x.person(0, -1, -1, 0);
        x.person(0, -1, -1, 9999);
        Check.due("of nothing", x.die(0), 0);
        Check.due("dead since year 0", x.personIs(0, 1), 0);
        Check.due("dead since year 0", x.die(0), Check.TAKEN);
        Check.due("of all", x.die(1), 9999);
        Check.due("lost", x.count(7), 9999);
        Check.due("all are dead", x.count(0), 0);
        DebtYear late = Lands.in(400);
        late.person(0, -1, -1, 5);
        Check.due("in 400", late.die(0), 5);
        Check.due("dead since 400", late.personIs(0, 1), 400);
        DebtYear serves = Twins.of(Lands::rich);
        serves.die(Lands.SERVES);
        Check.due("who is dead serves still", serves.personIs(Lands.SERVES, 3), Lands.STRANGER);
        Check.due("its paper is open", serves.paperIs(Lands.SERVED, 9), 0);
        Check.due("its field stays", serves.fieldIs(1, 2), Lands.SERVES);
    }

    private static void personIs() {
        for (int p : NO_PERSON) {
            Twins.keep("personIs(" + p + ", 0)", Check.BEYOND, Lands::rich, x -> x.personIs(p, 0));
            Twins.keep("personIs(" + p + ", 7)", Check.BEYOND, Lands::rich, x -> x.personIs(p, 7));
        }
        int[] wrong = {-1, 8, Integer.MIN_VALUE, Integer.MAX_VALUE};
        for (int what : wrong) {
            Twins.keep("personIs(0, " + what + ")", Check.BEYOND, Lands::rich, x -> x.personIs(0, what));
        }
        // 1 had 300, gave 5, got 10, and 10 * 12 / 10 of field 0, and ate 10; 3 had 40, got 4 * 12 / 10 and ate.
        int[][] is = {{-40, -1, 307, -1, 45 + 5, 60, 0, 0}, {-10, -1, 34, 4, 20, 5, 0, 2}};
        for (int i = 0; i < 2; i++) {
            for (int what = 0; what < 8; what++) {
                int person = 1 + 2 * i;
                int w = what;
                Twins.keep("personIs(" + person + ", " + what + ")", is[i][what], Lands::rich, x -> x.personIs(person, w));
            }
        }
        Twins.keep("dead since", 1, Lands::rich, x -> x.personIs(Lands.DEAD, 1));
        Twins.keep("born in -99", -99, Lands::rich, x -> x.personIs(5, 0));
    }

    /** A WORTH (1 to 99 measures a year), a ROOT (a PERSON). */
    private static void fields() {
        for (int p : NO_PERSON) {
            Twins.keep("root " + p, Check.BEYOND, Lands::rich, x -> x.field(p, 5, false));
        }
        int[] wrong = {0, -1, 100, Integer.MIN_VALUE, Integer.MAX_VALUE};
        for (int worth : wrong) {
            Twins.keep("worth " + worth, Check.BEYOND, Lands::rich, x -> x.field(1, worth, true));
        }
        Twins.keep("no person at all", Check.BEYOND, Lands::empty, x -> x.field(0, 5, false));
        int[] right = {1, 99};
        for (int worth : right) {
            DebtYear x = Twins.of(Lands::rich);
            Check.due("worth " + worth, x.field(Lands.PERSONS - 1, worth, true), Lands.FIELDS);
            int[] is = {worth, Lands.PERSONS - 1, Lands.PERSONS - 1, 1};
            for (int what = 0; what < 4; what++) {
                Check.due("fieldIs(4, " + what + ")", x.fieldIs(Lands.FIELDS, what), is[what]);
            }
        }
        Twins.answer("root 0", Lands.FIELDS, Lands::rich, x -> x.field(0, 5, false));
    }

    /** FIELDS 0, 1, .. (at most 8). */
    private static void eightFields() {
        Consumer<DebtYear> seven = x -> {
            Lands.rich(x);
            for (int i = Lands.FIELDS; i < 7; i++) {
                Check.due("field", x.field(0, 1, false), i);
            }
        };
        Twins.answer("the eighth", 7, seven, x -> x.field(0, 1, false));
        Twins.keep("a ninth", Check.FULL, Lands::fullOfFields, x -> x.field(1, 50, true));
        int[][] wrong = {{-1, 5}, {Lands.PERSONS, 5}, {0, 0}, {0, 100}};
        for (int[] a : wrong) {
            Twins.keep("BEYOND ahead of FULL", Check.BEYOND, Lands::fullOfFields, x -> x.field(a[0], a[1], false));
        }
        DebtYear x = Twins.of(Lands::fullOfFields);
        Check.due("the last field", x.fieldIs(7, 0), 7);
        Check.due("no ninth", x.fieldIs(8, 0), Check.BEYOND);
    }

    private static void fieldIs() {
        for (int f : NO_FIELD) {
            Twins.keep("fieldIs(" + f + ", 0)", Check.BEYOND, Lands::rich, x -> x.fieldIs(f, 0));
            Twins.keep("fieldIs(" + f + ", 3)", Check.BEYOND, Lands::rich, x -> x.fieldIs(f, 3));
        }
        int[] wrong = {-1, 4, Integer.MIN_VALUE, Integer.MAX_VALUE};
        for (int what : wrong) {
            Twins.keep("fieldIs(0, " + what + ")", Check.BEYOND, Lands::rich, x -> x.fieldIs(0, what));
        }
        int[][] is = {{10, 0, 0, 0}, {4, 1, 3, 1}, {7, 2, 2, 0}, {99, 5, 5, 1}};
        for (int f = 0; f < Lands.FIELDS; f++) {
            for (int what = 0; what < 4; what++) {
                int field = f;
                int w = what;
                Twins.keep("fieldIs(" + f + ", " + what + ")", is[f][what], Lands::rich, x -> x.fieldIs(field, w));
            }
        }
    }

    private static void heirsAndShareFindings() {
        for (int p : NO_PERSON) {
            Twins.keep("heirs of " + p, Check.BEYOND, Lands::rich, x -> x.heirs(p));
            Twins.keep("share of " + p, Check.BEYOND, Lands::rich, x -> x.share(p, 1));
            Twins.keep("share of 0 for " + p, Check.BEYOND, Lands::rich, x -> x.share(0, p));
            Twins.keep("share of 1 (who lives) for " + p, Check.BEYOND, Lands::rich, x -> x.share(1, p));
            Twins.keep("share of 5 (without heirs) for " + p, Check.BEYOND, Lands::rich, x -> x.share(5, p));
        }
        Twins.keep("heirs of a dead one", 6, Lands::rich, x -> x.heirs(Lands.DEAD));
        Twins.keep("heirs of one who lives", 2, Lands::rich, x -> x.heirs(1));
        Twins.keep("no heirs: no finding", 0, Lands::rich, x -> x.heirs(5));
        Twins.keep("share", 2, Lands::rich, x -> x.share(0, 1));
        Twins.keep("share of itself", 1, Lands::rich, x -> x.share(1, 1));
        Twins.keep("a dead one has no share of itself", Check.NONE, Lands::rich, x -> x.share(0, 0));
        Twins.keep("a grandchild behind a living child", Check.NONE, Lands::rich, x -> x.share(0, 3));
        Twins.keep("one who is no kin", Check.NONE, Lands::rich, x -> x.share(0, 4));
        Twins.keep("a child of one who lives", Check.NONE, Lands::rich, x -> x.share(1, 3));
        Twins.keep("a parent", Check.NONE, Lands::rich, x -> x.share(3, 1));
        Twins.keep("without heirs", Check.NONE, Lands::rich, x -> x.share(5, 1));
    }

    /** Down to the fifth life (children, theirs, .. five times). */
    private static void fifthLife() {
        for (int life = 0; life <= 7; life++) {
            DebtYear x = new DebtYear();
            x.person(0, -1, -1, 0);
            for (int i = 1; i <= 7; i++) {
                x.person(0, i % 2 == 0 ? i - 1 : -1, i % 2 == 0 ? -1 : i - 1, 0);
            }
            for (int i = 0; i < life; i++) {
                x.die(i);
            }
            Check.due("heirs, the first who lives is of life " + life, x.heirs(0), life <= 5 ? 1 << life : 0);
            Check.due("its share", x.share(0, life), life <= 5 ? 1 : Check.NONE);
        }
    }

    /** One who is of the sixth life by one way, but of the fifth by another one, is an heir by that. */
    private static void fifthLifeByTwoWays() {
        DebtYear x = new DebtYear();
        x.person(0, -1, -1, 0);
        for (int i = 1; i <= 5; i++) {
            x.person(0, i - 1, -1, 0);
        }
        x.person(0, 5, 4, 0);
        x.person(0, 5, -1, 0);
        for (int i = 0; i <= 5; i++) {
            x.die(i);
        }
        Check.due("heirs", x.heirs(0), 1 << 6);
        Check.due("5 has no heirs within the lives, so 6 alone shares", x.share(0, 6), 1);
        Check.due("not 7", x.share(0, 7), Check.NONE);
        Check.due("heirs of 1", x.heirs(1), (1 << 6) + (1 << 7));
        Check.due("6 by itself shares with 5: 2", x.share(1, 6), 2);
        Check.due("7 shares 5's part with 6: 4", x.share(1, 7), 4);
    }

    /** Each child's part like that of the others who have HEIRS. */
    private static void whoHasHeirsShares() {
        DebtYear x = new DebtYear();
        x.person(0, -1, -1, 0);
        for (int i = 1; i <= 4; i++) {
            x.person(0, 0, -1, 0);
        }
        x.person(0, 4, -1, 0);
        x.die(0);
        for (int i = 1; i <= 3; i++) {
            Check.due("so many share: " + (5 - i), x.share(0, 4), 5 - i);
            x.die(i);
        }
        Check.due("one alone", x.share(0, 4), 1);
        x.die(4);
        Check.due("its child alone", x.share(0, 5), 1);
        x.person(0, 1, -1, 0);
        Check.due("a child is born to a dead one", x.share(0, 5), 2);
        x.die(5);
        x.die(6);
        Check.due("none", x.heirs(0), 0);
    }

    /** By several ways the least, whichever is found first. */
    private static void leastOfSeveralWays() {
        for (int first = 1; first <= 2; first++) {
            DebtYear x = new DebtYear();
            x.person(0, -1, -1, 0);
            x.person(0, 0, -1, 0);
            x.person(0, 0, -1, 0);
            x.person(0, 1, 2, 0);
            x.person(0, first, -1, 0);
            x.person(0, first, -1, 0);
            x.die(0);
            x.die(1);
            x.die(2);
            Check.due("2 times 3, or 2 times 1", x.share(0, 3), 2);
            Check.due("2 times 3", x.share(0, 4), 6);
        }
        DebtYear wide = new DebtYear();
        wide.person(0, -1, -1, 0);
        wide.person(0, 0, -1, 0);
        for (int i = 2; i < 6; i++) {
            wide.person(0, 0, -1, 0);
        }
        for (int i = 6; i < 14; i++) {
            wide.person(0, 1, i == 13 ? 0 : -1, 0);
        }
        wide.die(0);
        wide.die(1);
        Check.due("a child and a grandchild: 6, not 48", wide.share(0, 13), 6);
        Check.due("a grandchild: 6 times 8", wide.share(0, 12), 48);
        Check.due("all of them", wide.heirs(0), (1 << 14) - 4);
    }

    /** Sets are told by bits, up to the last PERSON and the last FIELD. */
    private static void setsAreBits() {
        DebtYear x = new DebtYear();
        for (int i = 0; i < 14; i++) {
            x.person(0, -1, -1, 0);
        }
        for (int i = 0; i < 8; i++) {
            x.field(13, 1, false);
        }
        Check.due("heirs(13)", x.heirs(13), 1 << 13);
        Check.due("fields", x.personIs(13, 7), 255);
        x.paper(3, 1300, 1, 9, 7);
        Check.due("fields", x.personIs(13, 7), 127);
        Check.due("the last field", x.personIs(0, 7), 128);
        x.paper(1, 1300, 5, 9, 0);
        Check.due("chain", x.chain(0), 1 << 13);
    }
}
