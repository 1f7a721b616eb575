import java.util.Arrays;

/**
 * The year in which debts fall. What each call answers and changes stands in the document
 * (../shared/DOC.md); the words used here (STORE, FEAR, OWED, LEFT ..) are its words.
 */
public final class DebtYear {
    private static final int BEYOND = -100001;
    private static final int MISSING = -100002;
    private static final int SIZE = -100003;
    private static final int KIND = -100004;
    private static final int FULL = -100005;
    private static final int NONE = -100006;
    private static final int TAKEN = -100007;

    private static final int MOST_PERSONS = 14;
    private static final int MOST_FIELDS = 8;
    private static final int MOST_PAPERS = 20;
    private static final int MOST_LAWS = 12;
    private static final int TEXTS = 5;
    private static final int BENCHES = 2;
    private static final int SHEETS = 4;
    private static final int LAST_YEAR = 400;
    private static final int MOST_MEASURES = 9999;
    private static final int MOST_FEAR = 50;
    private static final int MOST_HARVEST = 30;
    private static final int MEAL = 10;

    private static final int LOAN = 1;
    private static final int PLEDGE = 2;
    private static final int SALE = 3;
    private static final int GIFT = 4;
    private static final int SERVED = 6;
    private static final int KINDS = 7;
    private static final int[] KIND_ABOVE = {-1, 0, 1, 0, 3, 0, 2};

    private static final int UNKNOWN_WORD = 2;

    private static final int OPEN = 0;
    private static final int PAID = 1;
    private static final int FALLEN = 2;
    private static final int VOID = 3;

    private static final int FALLS_CLAUSE = 0;
    private static final int BACK_CLAUSE = 1;
    private static final int LOAN_CLAUSE = 2;
    private static final int CLAUSES = 3;

    private static final int NOT = 0;
    private static final int SURELY = 2;

    private final Land land = new Land();
    private final Land kept = new Land();
    private final Court court = new Court(land);
    private final Season season = new Season(land, court);
    private final Scribe scribe = new Scribe();
    private final Thrift thrift = new Thrift();
    private final Sheet[] sheets = new Sheet[SHEETS];
    private boolean hasImage = false;
    private int findings = 0;

    public DebtYear() {
        for (int i = 0; i < SHEETS; i++) {
            sheets[i] = new Sheet();
        }
    }

    // ---- persons, fields

    public int person(int birth, int one, int two, int store) {
        if (!within(birth, -99, Math.min(300, land.year)) || !land.mayBeParents(one, two)
                || !within(store, 0, MOST_MEASURES)) {
            return found(BEYOND);
        }
        if (land.personCount >= MOST_PERSONS) {
            return found(FULL);
        }
        land.persons[land.personCount].begin(birth, one, two, store);
        return land.personCount++;
    }

    public int lives(int person, boolean stranger, boolean walls) {
        if (!land.hasPerson(person)) {
            return found(BEYOND);
        }
        land.persons[person].stranger = stranger;
        land.persons[person].walls = walls;
        return 1;
    }

    public int fear(int person, int v) {
        if (!land.hasPerson(person) || !within(v, 0, MOST_FEAR)) {
            return found(BEYOND);
        }
        int was = land.persons[person].fear;
        land.persons[person].fear = v;
        return was;
    }

    public int die(int person) {
        if (!land.hasPerson(person)) {
            return found(BEYOND);
        }
        Person p = land.persons[person];
        if (p.isDead()) {
            return found(TAKEN);
        }
        int was = p.store;
        land.lost += was;
        p.store = 0;
        p.deadSince = land.year;
        return was;
    }

    public int personIs(int person, int what) {
        if (!land.hasPerson(person)) {
            return found(BEYOND);
        }
        Person p = land.persons[person];
        switch (what) {
            case 0: return p.birth;
            case 1: return p.deadSince;
            case 2: return p.store;
            case 3: return p.serves;
            case 4: return land.owedBy(person);
            case 5: return land.owedTo(person);
            case 6: return p.hungered;
            case 7: return land.fieldsHeldBy(person);
            default: return found(BEYOND);
        }
    }

    public int field(int root, int worth, boolean walls) {
        if (!land.hasPerson(root) || !within(worth, 1, 99)) {
            return found(BEYOND);
        }
        if (land.fieldCount >= MOST_FIELDS) {
            return found(FULL);
        }
        land.fields[land.fieldCount].begin(root, worth, walls);
        return land.fieldCount++;
    }

    public int fieldIs(int field, int what) {
        if (!land.hasField(field)) {
            return found(BEYOND);
        }
        Field f = land.fields[field];
        switch (what) {
            case 0: return f.worth;
            case 1: return f.root;
            case 2: return f.holder;
            case 3: return bit(f.walls);
            default: return found(BEYOND);
        }
    }

    public int heirs(int person) {
        return land.hasPerson(person) ? land.heirsOf(person) : found(BEYOND);
    }

    public int share(int person, int heir) {
        if (!land.hasPerson(person) || !land.hasPerson(heir)) {
            return found(BEYOND);
        }
        int number = land.shareOf(person, heir);
        return number > 0 ? number : found(NONE);
    }

    // ---- papers

    public int paper(int kind, int who, int sum, int due, int thing) {
        int by = who / 100;
        int to = who % 100;
        if (!within(kind, 0, KINDS - 1) || who < 0 || !land.hasPerson(by) || !land.hasPerson(to)
                || !within(sum, 1, MOST_MEASURES) || !within(due, land.year, LAST_YEAR)) {
            return found(BEYOND);
        }
        if (by == to) {
            return found(SIZE);
        }
        if (land.persons[by].isDead() || land.persons[to].isDead()) {
            return found(NONE);
        }
        boolean needsField = kind == PLEDGE || kind == SALE || kind == GIFT;
        if (needsField && !(land.hasField(thing) && land.fields[thing].holder == by)) {
            return found(MISSING);
        }
        if (kind == SERVED && !land.persons[by].isFree()) {
            return found(TAKEN);
        }
        if (land.paperCount >= MOST_PAPERS) {
            return found(FULL);
        }
        land.nextPaper().begin(kind, by, to, sum, land.year, due);
        return land.bindNewPaper(needsField ? thing : -1);
    }

    public int as(int paper, int kind) {
        if (!land.hasPaper(paper) || !within(kind, 0, KINDS - 1)) {
            return found(BEYOND);
        }
        return isUnder(land.papers[paper].kind, kind) ? paper : found(KIND);
    }

    public int word(int paper, int v) {
        if (!land.hasPaper(paper) || !within(v, 0, UNKNOWN_WORD)) {
            return found(BEYOND);
        }
        int was = land.papers[paper].word;
        land.papers[paper].word = v;
        return was;
    }

    public int pay(int paper, int n) {
        if (!land.hasPaper(paper) || !within(n, 1, MOST_MEASURES)) {
            return found(BEYOND);
        }
        Paper p = land.papers[paper];
        if (p.state != OPEN) {
            return found(NONE);
        }
        if (n > p.owed()) {
            return found(SIZE);
        }
        if (n > land.persons[p.by].store) {
            return found(MISSING);
        }
        land.payOn(p, n);
        return p.owed();
    }

    public int annul(int paper) {
        if (!land.hasPaper(paper)) {
            return found(BEYOND);
        }
        Paper p = land.papers[paper];
        if (p.state != OPEN) {
            return found(NONE);
        }
        land.end(p, VOID);
        return p.owed();
    }

    public int paperIs(int paper, int what) {
        if (!land.hasPaper(paper)) {
            return found(BEYOND);
        }
        Paper p = land.papers[paper];
        switch (what) {
            case 0: return p.kind;
            case 1: return p.by;
            case 2: return p.to;
            case 3: return p.sum;
            case 4: return p.paid;
            case 5: return p.since;
            case 6: return p.due;
            case 7: return p.thing;
            case 8: return p.word;
            case 9: return p.state;
            default: return found(BEYOND);
        }
    }

    // ---- benches, laws

    public int shift(int bench, int v) {
        if (!isBench(bench) || !within(v, 0, 49)) {
            return found(BEYOND);
        }
        int was = land.shifts[bench];
        land.shifts[bench] = v;
        return was;
    }

    public int left(int bench, int year) {
        return isBench(bench) && isYear(year) ? land.leftBy(bench, year) : found(BEYOND);
    }

    public int feed(int n, long bytes) {
        if (!within(n, 1, 8)) {
            return found(BEYOND);
        }
        return scribe.takes(n, bytes) ? scribe.length : found(FULL);
    }

    public int text(int t) {
        if (!within(t, 0, TEXTS - 1)) {
            return found(BEYOND);
        }
        int fault = scribe.reads();
        if (fault < 0) {
            land.texts[t] = scribe.written();
        }
        scribe.length = 0;
        return fault;
    }

    public int force(int t, int bench, int year) {
        if (!within(t, 0, TEXTS - 1) || !isBench(bench) || !isYear(year)) {
            return found(BEYOND);
        }
        if (land.texts[t] == null) {
            return found(NONE);
        }
        if (land.lawCount >= MOST_LAWS) {
            return found(FULL);
        }
        land.laws[land.lawCount].begin(land.texts[t], bench, year);
        return land.lawCount++;
    }

    public int law(int bench, int year) {
        if (!isBench(bench) || !isYear(year)) {
            return found(BEYOND);
        }
        int number = land.lawOf(bench, year);
        return number >= 0 ? number : found(NONE);
    }

    public int falls(int paper, int bench, int year) {
        if (!mayBeJudged(paper, bench, year)) {
            return found(BEYOND);
        }
        return court.judge(land.papers[paper], FALLS_CLAUSE, bench, year);
    }

    public int truly(int paper, int bench, int year) {
        if (!mayBeJudged(paper, bench, year)) {
            return found(BEYOND);
        }
        return court.judge(land.papers[paper], LOAN_CLAUSE, bench, year);
    }

    public int back(int field, int bench, int year) {
        if (!land.hasField(field) || !isBench(bench) || !isYear(year)) {
            return found(BEYOND);
        }
        return bit(court.givesBack(land.fields[field], bench, year));
    }

    public int dress(int paper, int bench, int year) {
        if (!mayBeJudged(paper, bench, year)) {
            return found(BEYOND);
        }
        return court.safeKinds(land.papers[paper], bench, year);
    }

    public int price(int field, int bench) {
        if (!land.hasField(field) || !isBench(bench)) {
            return found(BEYOND);
        }
        return land.fields[field].worth * land.leftBy(bench, land.year);
    }

    // ---- years

    public int year(int harvest) {
        if (!isHarvest(harvest)) {
            return found(BEYOND);
        }
        return land.year < LAST_YEAR ? season.goBy(harvest) : found(FULL);
    }

    public int years(int s) {
        if (!isSheet(s)) {
            return found(BEYOND);
        }
        if (sheets[s].isMissing()) {
            return found(MISSING);
        }
        int harvest = 10;
        int went = 0;
        while (went < sheets[s].length && land.year < LAST_YEAR) {
            int told = sheets[s].numbers[went];
            if (isHarvest(told)) {
                harvest = told;
            }
            season.goBy(harvest);
            went++;
        }
        return went;
    }

    public int chain(int paper) {
        return land.hasPaper(paper) ? land.unableWithout(paper) : found(BEYOND);
    }

    public int last(int s, int o, int n, int harvests) {
        if (!mayLast(s, o, n, harvests)) {
            return found(BEYOND);
        }
        thrift.expect(harvests / 100);
        return thrift.sureHunger(s, o, n);
    }

    public int pays(int s, int o, int n, int harvests, int harvest) {
        if (!mayLast(s, o, n, harvests) || n == 0) {
            return found(BEYOND);
        }
        int low = harvests / 100;
        int high = harvests % 100;
        if (harvest != low && harvest != high) {
            return found(NONE);
        }
        thrift.expect(low);
        return thrift.bestPayment(s + harvest, o, n);
    }

    public int proves(int s, int o, int v, int sheet) {
        if (!isPurse(s) || !isPurse(o) || !within(v, 0, 999) || !isSheet(sheet)) {
            return found(BEYOND);
        }
        if (sheets[sheet].isMissing()) {
            return found(MISSING);
        }
        return thrift.check(s, o, v, sheets[sheet]);
    }

    // ---- sheets, the whole

    public int sheet(int s, int bits, int n) {
        if (!isSheet(s) || (bits != 0 && bits != 8 && bits != 16 && bits != 32)) {
            return found(BEYOND);
        }
        if (n < 0) {
            return found(SIZE);
        }
        if (n > Sheet.MOST) {
            return found(BEYOND);
        }
        sheets[s].begin(bits, bits == 0 ? 0 : n);
        return sheets[s].length;
    }

    public int put(int s, int i, int v) {
        if (!isSheet(s)) {
            return found(BEYOND);
        }
        if (sheets[s].isMissing()) {
            return found(MISSING);
        }
        if (!within(i, 0, sheets[s].length - 1)) {
            return found(BEYOND);
        }
        sheets[s].write(i, v);
        return 0;
    }

    public int copy(int s, int from, int t, int to, int n) {
        if (!isSheet(s) || !isSheet(t)) {
            return found(BEYOND);
        }
        if (sheets[s].isMissing() || sheets[t].isMissing()) {
            return found(MISSING);
        }
        if (sheets[s].bits != sheets[t].bits) {
            return found(KIND);
        }
        if (!sheets[s].hasRow(from, n) || !sheets[t].hasRow(to, n)) {
            return found(BEYOND);
        }
        System.arraycopy(sheets[s].numbers, from, sheets[t].numbers, to, n);
        return n;
    }

    public int image() {
        kept.become(land);
        hasImage = true;
        return land.year;
    }

    public int restore() {
        if (!hasImage) {
            return found(NONE);
        }
        land.become(kept);
        return land.year;
    }

    public int count(int what) {
        switch (what) {
            case 0: return land.livingCount();
            case 1: return land.fieldCount;
            case 2: return land.paperCount;
            case 3: return land.openCount();
            case 4: return land.year;
            case 5: return land.allStores();
            case 6: return land.eaten;
            case 7: return land.lost;
            case 8: return findings;
            default: return found(BEYOND);
        }
    }

    // ---- what the calls share

    private int found(int finding) {
        findings++;
        return finding;
    }

    private boolean mayBeJudged(int paper, int bench, int year) {
        return land.hasPaper(paper) && isBench(bench) && isYear(year)
                && year >= land.papers[paper].since;
    }

    private static boolean mayLast(int s, int o, int n, int harvests) {
        int low = harvests / 100;
        int high = harvests % 100;
        return isPurse(s) && isPurse(o) && within(n, 0, Thrift.MOST_YEARS)
                && isHarvest(low) && isHarvest(high) && low <= high;
    }

    private static boolean within(int v, int least, int most) {
        return v >= least && v <= most;
    }

    private static boolean isBench(int bench) {
        return within(bench, 0, BENCHES - 1);
    }

    private static boolean isYear(int year) {
        return within(year, 0, LAST_YEAR);
    }

    private static boolean isHarvest(int harvest) {
        return within(harvest, 0, MOST_HARVEST);
    }

    private static boolean isPurse(int measures) {
        return within(measures, 0, Thrift.MOST_KEPT);
    }

    private static boolean isSheet(int s) {
        return within(s, 0, SHEETS - 1);
    }

    private static boolean isUnder(int kind, int above) {
        int k = kind;
        for (int i = 0; i < KINDS && within(k, 0, KINDS - 1); i++) {
            if (k == above) {
                return true;
            }
            k = KIND_ABOVE[k];
        }
        return false;
    }

    private static int bit(boolean b) {
        return b ? 1 : 0;
    }

    /** The least PERSON of a set that has one. */
    private static int leastOf(int bits) {
        int least = 0;
        while (least < MOST_PERSONS - 1 && (bits >> least & 1) == 0) {
            least++;
        }
        return least;
    }

    private static final class Person {
        int birth;
        int one;
        int two;
        int store;
        int deadSince;
        int fear;
        int serves;
        int hungered;
        boolean stranger;
        boolean walls;

        // All is set anew, as a number may have been another one's ahead of a restore.
        void begin(int born, int parent, int other, int measures) {
            birth = born;
            one = parent;
            two = other;
            store = measures;
            deadSince = -1;
            fear = 3;
            serves = -1;
            hungered = 0;
            stranger = false;
            walls = false;
        }

        void become(Person p) {
            begin(p.birth, p.one, p.two, p.store);
            deadSince = p.deadSince;
            fear = p.fear;
            serves = p.serves;
            hungered = p.hungered;
            stranger = p.stranger;
            walls = p.walls;
        }

        boolean isDead() {
            return deadSince >= 0;
        }

        boolean isFree() {
            return serves < 0;
        }

        boolean isChildOf(int person) {
            return one == person || two == person;
        }
    }

    private static final class Field {
        int root;
        int worth;
        int holder;
        boolean walls;

        void begin(int person, int measures, boolean inWalls) {
            root = person;
            worth = measures;
            holder = person;
            walls = inWalls;
        }

        void become(Field f) {
            begin(f.root, f.worth, f.walls);
            holder = f.holder;
        }
    }

    private static final class Paper {
        int kind;
        int by;
        int to;
        int sum;
        int paid;
        int since;
        int due;
        int thing;
        int word;
        int state;

        void begin(int itsKind, int ower, int owner, int measures, int made, int dueIn) {
            kind = itsKind;
            by = ower;
            to = owner;
            sum = measures;
            paid = 0;
            since = made;
            due = dueIn;
            thing = -1;
            word = UNKNOWN_WORD;
            state = OPEN;
        }

        void become(Paper p) {
            begin(p.kind, p.by, p.to, p.sum, p.since, p.due);
            paid = p.paid;
            thing = p.thing;
            word = p.word;
            state = p.state;
        }

        int owed() {
            return sum - paid;
        }

        int openOwed() {
            return state == OPEN ? owed() : 0;
        }

        boolean isSale() {
            return isUnder(kind, SALE);
        }
    }

    /** A TEXT that was found right: its clauses one behind another, what is worked on ahead of the work. */
    private static final class Text {
        final int[] code;
        final int backFrom;
        final int loanFrom;

        Text(int[] written, int second, int third) {
            code = written;
            backFrom = second;
            loanFrom = third;
        }

        int from(int clause) {
            return clause == FALLS_CLAUSE ? 0 : clause == BACK_CLAUSE ? backFrom : loanFrom;
        }

        int to(int clause) {
            return clause == FALLS_CLAUSE ? backFrom : clause == BACK_CLAUSE ? loanFrom : code.length;
        }
    }

    private static final class Law {
        Text text = null;
        int bench;
        int from;

        void begin(Text its, int forBench, int year) {
            text = its;
            bench = forBench;
            from = year;
        }
    }

    /** All that an IMAGE keeps. */
    private static final class Land {
        private static final int LIVES = 5;

        final Person[] persons = new Person[MOST_PERSONS];
        final Field[] fields = new Field[MOST_FIELDS];
        final Paper[] papers = new Paper[MOST_PAPERS];
        final Law[] laws = new Law[MOST_LAWS];
        final Text[] texts = new Text[TEXTS];
        final int[] shifts = new int[BENCHES];
        /** Worked with by unableBehind() alone; no part of an IMAGE. */
        private final int[] rests = new int[MOST_PERSONS];
        int personCount = 0;
        int fieldCount = 0;
        int paperCount = 0;
        int lawCount = 0;
        int year = 0;
        int eaten = 0;
        int lost = 0;

        Land() {
            for (int i = 0; i < MOST_PERSONS; i++) {
                persons[i] = new Person();
            }
            for (int i = 0; i < MOST_FIELDS; i++) {
                fields[i] = new Field();
            }
            for (int i = 0; i < MOST_PAPERS; i++) {
                papers[i] = new Paper();
            }
            for (int i = 0; i < MOST_LAWS; i++) {
                laws[i] = new Law();
            }
        }

        void become(Land other) {
            personCount = other.personCount;
            fieldCount = other.fieldCount;
            paperCount = other.paperCount;
            lawCount = other.lawCount;
            year = other.year;
            eaten = other.eaten;
            lost = other.lost;
            System.arraycopy(other.shifts, 0, shifts, 0, BENCHES);
            for (int i = 0; i < personCount; i++) {
                persons[i].become(other.persons[i]);
            }
            for (int i = 0; i < fieldCount; i++) {
                fields[i].become(other.fields[i]);
            }
            for (int i = 0; i < paperCount; i++) {
                papers[i].become(other.papers[i]);
            }
            for (int i = 0; i < lawCount; i++) {
                laws[i].begin(other.laws[i].text, other.laws[i].bench, other.laws[i].from);
            }
            for (int i = 0; i < TEXTS; i++) {
                texts[i] = other.texts[i];
            }
        }

        boolean hasPerson(int person) {
            return within(person, 0, personCount - 1);
        }

        boolean hasField(int field) {
            return within(field, 0, fieldCount - 1);
        }

        boolean hasPaper(int paper) {
            return within(paper, 0, paperCount - 1);
        }

        boolean mayBeParents(int one, int two) {
            return (one == -1 || hasPerson(one)) && (two == -1 || hasPerson(two))
                    && (one != two || one == -1);
        }

        int heirsOf(int person) {
            return heirsFrom(person, 0);
        }

        private int heirsFrom(int person, int life) {
            if (!persons[person].isDead()) {
                return 1 << person;
            }
            int bits = 0;
            for (int child = person + 1; child < personCount && life < LIVES; child++) {
                if (persons[child].isChildOf(person)) {
                    bits |= heirsFrom(child, life + 1);
                }
            }
            return bits;
        }

        /** By which number 1 is divided; 0 if it is no HEIR. */
        int shareOf(int person, int heir) {
            return shareFrom(person, heir, 0);
        }

        private int shareFrom(int person, int heir, int life) {
            if (!persons[person].isDead()) {
                return bit(person == heir);
            }
            int sharing = 0;
            int least = 0;
            for (int child = person + 1; child < personCount && life < LIVES; child++) {
                if (persons[child].isChildOf(person) && heirsFrom(child, life + 1) != 0) {
                    sharing++;
                    int below = shareFrom(child, heir, life + 1);
                    if (below > 0 && (least == 0 || below < least)) {
                        least = below;
                    }
                }
            }
            return least * sharing;
        }

        /** What comes to a STORE; what it can't take is lost. */
        void bring(int person, int measures) {
            Person p = persons[person];
            int room = p.isDead() ? 0 : MOST_MEASURES - p.store;
            int taken = Math.min(room, measures);
            p.store += taken;
            lost += measures - taken;
        }

        /** The PAPER that will have the next number; the caller has seen that there is room. */
        Paper nextPaper() {
            return papers[Math.min(paperCount, MOST_PAPERS - 1)];
        }

        int bindNewPaper(int thing) {
            Paper p = nextPaper();
            p.thing = thing;
            if (p.isSale() && hasField(thing)) {
                fields[thing].holder = p.to;
            }
            if (p.kind == SERVED) {
                persons[p.by].serves = p.to;
            }
            return paperCount++;
        }

        void end(Paper p, int state) {
            p.state = state;
            if (p.kind == SERVED) {
                persons[p.by].serves = -1;
            }
        }

        void payOn(Paper p, int measures) {
            persons[p.by].store -= measures;
            bring(p.to, measures);
            p.paid += measures;
            if (p.owed() > 0) {
                return;
            }
            end(p, PAID);
            if (p.isSale() && hasField(p.thing) && fields[p.thing].holder == p.to) {
                fields[p.thing].holder = p.by;
            }
        }

        int leftBy(int bench, int inYear) {
            return 50 - countBy(bench, inYear);
        }

        int countBy(int bench, int inYear) {
            return (inYear + shifts[bench]) % 50;
        }

        /** The number of the LAW of a BENCH in a year; -1 if there is none. */
        int lawOf(int bench, int inYear) {
            for (int i = lawCount - 1; i >= 0; i--) {
                if (laws[i].bench == bench && laws[i].from <= inYear) {
                    return i;
                }
            }
            return -1;
        }

        int owedBy(int person) {
            int owed = 0;
            for (int i = 0; i < paperCount; i++) {
                owed += papers[i].by == person ? papers[i].openOwed() : 0;
            }
            return owed;
        }

        int owedTo(int person) {
            int owed = 0;
            for (int i = 0; i < paperCount; i++) {
                owed += papers[i].to == person ? papers[i].openOwed() : 0;
            }
            return owed;
        }

        int unableWithout(int paper) {
            int unable = 0;
            // Each round but the last one adds a PERSON at least, as who can't stays so.
            for (int round = 0; round <= MOST_PERSONS; round++) {
                int next = unableBehind(unable, paper);
                if (next == unable) {
                    break;
                }
                unable = next;
            }
            return unable;
        }

        /** Who can't, if those who can't are the ones that are told. */
        private int unableBehind(int unable, int paper) {
            for (int i = 0; i < personCount; i++) {
                rests[i] = persons[i].store;
            }
            for (int i = 0; i < paperCount; i++) {
                Paper p = papers[i];
                int owed = i == paper ? 0 : p.openOwed();
                rests[p.by] -= owed;
                rests[p.to] += (unable >> p.by & 1) == 0 ? owed : 0;
            }
            int bits = 0;
            for (int i = 0; i < personCount; i++) {
                bits |= bit(rests[i] < 0) << i;
            }
            return bits;
        }

        int fieldsHeldBy(int person) {
            int bits = 0;
            for (int i = 0; i < fieldCount; i++) {
                bits |= bit(fields[i].holder == person) << i;
            }
            return bits;
        }

        int livingCount() {
            int living = 0;
            for (int i = 0; i < personCount; i++) {
                living += bit(!persons[i].isDead());
            }
            return living;
        }

        int openCount() {
            int open = 0;
            for (int i = 0; i < paperCount; i++) {
                open += bit(papers[i].state == OPEN);
            }
            return open;
        }

        int allStores() {
            int all = 0;
            for (int i = 0; i < personCount; i++) {
                all += persons[i].store;
            }
            return all;
        }
    }

    /** What BENCHES say by their LAWS. */
    private static final class Court {
        /** Places of the NAMES: the order in which Scribe.WORDS has them. */
        private static final int KIND_NAME = 0;
        private static final int AGE_NAME = 1;
        private static final int LEFT_NAME = 2;
        private static final int OWED_NAME = 3;
        private static final int PAID_NAME = 4;
        private static final int SUM_NAME = 5;
        private static final int WORTH_NAME = 6;
        private static final int WORD_NAME = 7;
        private static final int STRANGER_NAME = 8;
        private static final int WALLS_NAME = 9;
        private static final int TERM_NAME = 10;
        private static final int NAMES = 11;

        private final Land land;
        private final int[] names = new int[NAMES];
        private final int[] stack = new int[Scribe.TAPE];

        Court(Land its) {
            land = its;
        }

        int judge(Paper p, int clause, int bench, int year) {
            return judgeAs(p, p.kind, clause, bench, year);
        }

        boolean givesBack(Field f, int bench, int year) {
            Arrays.fill(names, 0);
            names[LEFT_NAME] = land.leftBy(bench, year);
            names[STRANGER_NAME] = bit(land.persons[f.holder].stranger);
            tellField(f);
            return comes(BACK_CLAUSE, bench, year) && land.heirsOf(f.root) != 1 << f.holder;
        }

        int safeKinds(Paper p, int bench, int year) {
            int kinds = 0;
            for (int kind = 0; kind < KINDS; kind++) {
                kinds |= bit(judgeAs(p, kind, FALLS_CLAUSE, bench, year) == NOT) << kind;
            }
            return kinds;
        }

        private int judgeAs(Paper p, int kind, int clause, int bench, int year) {
            Arrays.fill(names, 0);
            names[KIND_NAME] = kind;
            names[LEFT_NAME] = land.leftBy(bench, year);
            tellPaper(p, year);
            if (p.word != UNKNOWN_WORD) {
                return comes(clause, bench, year) ? SURELY : NOT;
            }
            names[WORD_NAME] = 0;
            int ways = bit(comes(clause, bench, year));
            names[WORD_NAME] = 1;
            return ways + bit(comes(clause, bench, year));
        }

        private void tellPaper(Paper p, int year) {
            names[AGE_NAME] = year - p.since;
            names[OWED_NAME] = p.owed();
            names[PAID_NAME] = p.paid;
            names[SUM_NAME] = p.sum;
            names[WORD_NAME] = p.word;
            names[STRANGER_NAME] = bit(land.persons[p.by].stranger || land.persons[p.to].stranger);
            names[TERM_NAME] = p.due - p.since;
            if (land.hasField(p.thing)) {
                tellField(land.fields[p.thing]);
            }
        }

        private void tellField(Field f) {
            names[WORTH_NAME] = f.worth;
            names[WALLS_NAME] = bit(f.walls);
        }

        /** Whether a clause of THE LAW comes to a number that is not 0. */
        private boolean comes(int clause, int bench, int year) {
            int number = land.lawOf(bench, year);
            Text text = number >= 0 ? land.laws[number].text : null;
            if (text == null) {
                return false;
            }
            int height = 0;
            int end = Math.min(text.to(clause), text.code.length);
            for (int i = text.from(clause); i < end; i++) {
                int op = text.code[i];
                if (op < Scribe.FIRST_WORK) {
                    if (height < stack.length) {
                        stack[height] = valueOf(op);
                        height++;
                    }
                } else if (op == Scribe.FIRST_WORK + Scribe.NOT_KEY) {
                    if (height > 0) {
                        stack[height - 1] = bit(stack[height - 1] == 0);
                    }
                } else if (height > 1) {
                    height--;
                    stack[height - 1] = work(op, stack[height - 1], stack[height]);
                }
            }
            return height > 0 && stack[0] != 0;
        }

        private int valueOf(int op) {
            int name = op - Scribe.FIRST_NAME;
            return within(name, 0, NAMES - 1) ? names[name] : op;
        }

        private static int work(int op, int a, int b) {
            switch (op - Scribe.FIRST_WORK) {
                case Scribe.OR_KEY: return bit(a != 0 || b != 0);
                case Scribe.AND_KEY: return bit(a != 0 && b != 0);
                case Scribe.LESS: return bit(a < b);
                case Scribe.SAME: return bit(a == b);
                case Scribe.PLUS: return a + b;
                default: return a - b;
            }
        }
    }

    /** A YEAR GOES BY. */
    private static final class Season {
        private static final int LENDER_KEEPS = 20;
        private static final int LOAN_TERM = 5;

        private final Land land;
        private final Court court;

        Season(Land its, Court judges) {
            land = its;
            court = judges;
        }

        /** For how much all HUNGERED. */
        int goBy(int harvest) {
            for (int i = 0; i < land.fieldCount; i++) {
                land.bring(land.fields[i].holder, land.fields[i].worth * harvest / 10);
            }
            int hunger = 0;
            for (int i = 0; i < land.personCount; i++) {
                if (!land.persons[i].isDead()) {
                    hunger += eat(i);
                }
            }
            for (int i = 0; i < land.paperCount; i++) {
                Paper p = land.papers[i];
                if (p.state == OPEN && p.due <= land.year) {
                    fallDue(p);
                }
            }
            land.year++;
            if (land.countBy(0, land.year) == 0) {
                strike();
            }
            return hunger;
        }

        private int eat(int person) {
            Person p = land.persons[person];
            int lacks = Math.max(0, MEAL - p.store);
            if (lacks > 0 && borrow(person, lacks)) {
                lacks = 0;
            }
            p.store = Math.max(0, p.store - MEAL);
            p.hungered += lacks;
            land.eaten += MEAL - lacks;
            return lacks;
        }

        /** What is lent is eaten at once, so it never enters the STORE of who asks. */
        private boolean borrow(int asker, int lacks) {
            int lender = lenderFor(asker, lacks);
            if (lender < 0 || land.paperCount >= MOST_PAPERS) {
                return false;
            }
            land.persons[lender].store -= lacks;
            int due = Math.min(LAST_YEAR, land.year + LOAN_TERM);
            Paper loan = land.nextPaper();
            loan.begin(LOAN, asker, lender, lacks, land.year, due);
            loan.word = 0;
            land.bindNewPaper(-1);
            return true;
        }

        private int lenderFor(int asker, int lacks) {
            int left = land.leftBy(1, land.year);
            for (int i = 0; i < land.personCount; i++) {
                Person p = land.persons[i];
                if (i != asker && !p.isDead() && p.store - lacks >= LENDER_KEEPS
                        && (land.persons[asker].stranger || left > p.fear)) {
                    return i;
                }
            }
            return -1;
        }

        private void fallDue(Paper p) {
            Person by = land.persons[p.by];
            if (!by.isDead()) {
                land.payOn(p, Math.min(by.store, p.owed()));
            }
            if (p.state == OPEN && p.kind == PLEDGE && land.hasField(p.thing)
                    && land.fields[p.thing].holder == p.by) {
                land.fields[p.thing].holder = p.to;
                land.end(p, PAID);
            }
        }

        private void strike() {
            for (int i = 0; i < land.paperCount; i++) {
                Paper p = land.papers[i];
                if (p.state == OPEN && court.judge(p, FALLS_CLAUSE, 0, land.year) == SURELY) {
                    land.end(p, FALLEN);
                }
            }
            for (int i = 0; i < land.fieldCount; i++) {
                Field f = land.fields[i];
                int heirs = land.heirsOf(f.root);
                if (heirs != 0 && court.givesBack(f, 0, land.year)) {
                    f.holder = leastOf(heirs);
                }
            }
        }
    }

    /** THE TAPE, and how a TEXT is read from it. */
    private static final class Scribe {
        static final int TAPE = 200;
        /** NAMES first, then KEYS: a word's place here is its TOKEN. */
        private static final String WORDS =
                "kind age left owed paid sum worth word stranger walls term falls back loan or and not ";
        private static final int LAST_NAME = 10;
        private static final int FALLS_KEY = 11;
        static final int OR_KEY = 14;
        static final int AND_KEY = 15;
        static final int NOT_KEY = 16;
        private static final String SIGNS = "();+-<=";
        private static final int FIRST_SIGN = 17;
        private static final int OPENS = 17;
        private static final int CLOSES = 18;
        private static final int ENDS_CLAUSE = 19;
        static final int PLUS = 20;
        private static final int MINUS = 21;
        static final int LESS = 22;
        static final int SAME = 23;
        private static final int TAPE_END = 24;
        private static final int NO_TOKEN = 25;
        private static final int FIRST_NUMBER = 26;

        /** In a TEXT'S code: a NUMBER as it is, a NAME from here on, a TOKEN that works from there on. */
        static final int FIRST_NAME = 10000;
        static final int FIRST_WORK = 20000;
        private static final int MOST_NESTED = 4;

        private final int[] tape = new int[TAPE];
        int length = 0;
        private final int[] tokens = new int[TAPE + 1];
        private final int[] places = new int[TAPE + 1];
        private int tokenCount = 0;
        private int at = 0;
        private final int[] code = new int[TAPE];
        private int codeLength = 0;
        private final int[] starts = new int[CLAUSES];

        boolean takes(int n, long bytes) {
            if (length + n > TAPE) {
                return false;
            }
            for (int i = 0; i < n; i++) {
                tape[length + i] = (int) (bytes >>> 8 * i) & 255;
            }
            length += n;
            return true;
        }

        /** -1, or the place of the FAULT. */
        int reads() {
            cut();
            at = 0;
            codeLength = 0;
            for (int clause = 0; clause < CLAUSES; clause++) {
                starts[clause] = codeLength;
                if (!passes(FALLS_KEY + clause) || !either(0) || !passes(ENDS_CLAUSE)) {
                    return places[at];
                }
            }
            return tokens[at] == TAPE_END ? -1 : places[at];
        }

        Text written() {
            return new Text(Arrays.copyOf(code, codeLength), starts[BACK_CLAUSE], starts[LOAN_CLAUSE]);
        }

        private void cut() {
            tokenCount = 0;
            int behind = 0;
            for (int place = 0; place < length; place++) {
                if (place >= behind && tape[place] != ' ') {
                    behind = endOf(place);
                    tokens[tokenCount] = tokenOf(place, behind);
                    places[tokenCount] = place;
                    tokenCount++;
                }
            }
            tokens[tokenCount] = TAPE_END;
            places[tokenCount] = length;
        }

        private int endOf(int place) {
            int end = place + 1;
            if (isLetter(place)) {
                while (end < length && isLetter(end)) {
                    end++;
                }
            } else if (isDigit(place)) {
                while (end < length && isDigit(end)) {
                    end++;
                }
            }
            return end;
        }

        private int tokenOf(int from, int to) {
            if (isLetter(from)) {
                return wordOf(from, to);
            }
            if (isDigit(from)) {
                return numberOf(from, to);
            }
            int sign = SIGNS.indexOf((char) tape[from]);
            return sign < 0 ? NO_TOKEN : FIRST_SIGN + sign;
        }

        private int numberOf(int from, int to) {
            if (to - from > 4) {
                return NO_TOKEN;
            }
            int number = 0;
            for (int i = from; i < to; i++) {
                number = 10 * number + tape[i] - '0';
            }
            return FIRST_NUMBER + number;
        }

        private int wordOf(int from, int to) {
            int number = 0;
            int place = from;
            boolean same = true;
            for (int i = 0; i < WORDS.length(); i++) {
                char c = WORDS.charAt(i);
                if (c == ' ') {
                    if (same && place == to) {
                        return number;
                    }
                    number++;
                    place = from;
                    same = true;
                } else {
                    same = same && place < to && tape[place] == c;
                    place++;
                }
            }
            return NO_TOKEN;
        }

        private boolean isLetter(int place) {
            return within(tape[place], 'a', 'z');
        }

        private boolean isDigit(int place) {
            return within(tape[place], '0', '9');
        }

        /** Goes on behind a TOKEN, if it is the one that stands there; never behind the last one. */
        private boolean passes(int token) {
            if (tokens[at] != token || at >= tokenCount) {
                return false;
            }
            at++;
            return true;
        }

        private void write(int op) {
            if (codeLength < TAPE) {
                code[codeLength] = op;
                codeLength++;
            }
        }

        private boolean either(int nested) {
            boolean right = both(nested);
            for (int i = 0; i < TAPE && right && passes(OR_KEY); i++) {
                right = both(nested);
                write(FIRST_WORK + OR_KEY);
            }
            return right;
        }

        private boolean both(int nested) {
            boolean right = negated(nested);
            for (int i = 0; i < TAPE && right && passes(AND_KEY); i++) {
                right = negated(nested);
                write(FIRST_WORK + AND_KEY);
            }
            return right;
        }

        private boolean negated(int nested) {
            if (tokens[at] == NOT_KEY) {
                boolean right = nested < MOST_NESTED && passes(NOT_KEY) && negated(nested + 1);
                write(FIRST_WORK + NOT_KEY);
                return right;
            }
            if (!total(nested)) {
                return false;
            }
            int sign = tokens[at];
            if (sign != LESS && sign != SAME) {
                return true;
            }
            boolean right = passes(sign) && total(nested);
            write(FIRST_WORK + sign);
            return right;
        }

        private boolean total(int nested) {
            boolean right = one(nested);
            for (int i = 0; i < TAPE && right; i++) {
                int sign = tokens[at];
                if (sign != PLUS && sign != MINUS) {
                    break;
                }
                right = passes(sign) && one(nested);
                write(FIRST_WORK + sign);
            }
            return right;
        }

        private boolean one(int nested) {
            int token = tokens[at];
            if (token >= FIRST_NUMBER) {
                write(token - FIRST_NUMBER);
                return passes(token);
            }
            if (token <= LAST_NAME) {
                write(FIRST_NAME + token);
                return passes(token);
            }
            return token == OPENS && nested < MOST_NESTED && passes(OPENS)
                    && either(nested + 1) && passes(CLOSES);
        }
    }

    /**
     * LAST: the least HUNGER that one can be sure of. The low harvest is always the worst: who has
     * more may pay and eat as one who has less, and keeps no less, so the high one is never looked at.
     */
    private static final class Thrift {
        static final int MOST_KEPT = 60;
        static final int MOST_YEARS = 8;
        private static final int MOST_PAYMENT = 9;
        private static final int STEPS = MOST_KEPT + 1;

        private int low = -1;
        /**
         * For each STORE and debt eight bytes: by years that are left (1 to 8) the HUNGER, at most
         * 200, and 1; 0 where it was not asked yet. So one row does for all years.
         */
        private final long[] known = new long[STEPS * STEPS];

        void expect(int lowHarvest) {
            if (lowHarvest != low) {
                low = lowHarvest;
                Arrays.fill(known, 0L);
            }
        }

        int sureHunger(int store, int debt, int years) {
            if (years < 1 || years > MOST_YEARS) {
                return 2 * debt;
            }
            int place = store * STEPS + debt;
            if (!within(place, 0, known.length - 1)) {
                return 2 * debt;
            }
            int shift = 8 * (years - 1);
            int asked = (int) (known[place] >>> shift) & 255;
            if (asked > 0) {
                return asked - 1;
            }
            int least = leastHunger(store + low, debt, years);
            known[place] |= (long) (least + 1) << shift;
            return least;
        }

        /** The harvest is in already, here and in all below. */
        private int leastHunger(int has, int debt, int years) {
            int most = mostPayment(has, debt);
            int least = paying(0, has, debt, years);
            for (int payment = 1; payment <= most; payment++) {
                least = Math.min(least, paying(payment, has, debt, years));
            }
            return least;
        }

        int bestPayment(int has, int debt, int years) {
            int most = mostPayment(has, debt);
            int least = leastHunger(has, debt, years);
            int payment = 0;
            while (payment < most && paying(payment, has, debt, years) > least) {
                payment++;
            }
            return payment;
        }

        private int paying(int payment, int has, int debt, int years) {
            int rest = has - payment;
            return hungerWith(rest) + sureHunger(keptOf(rest), debt - payment, years - 1);
        }

        int check(int s, int o, int v, Sheet sheet) {
            int store = s;
            int debt = o;
            int hunger = 0;
            for (int i = 0; i + 1 < sheet.length; i += 2) {
                int harvest = sheet.numbers[i];
                if (!isHarvest(harvest)) {
                    return i;
                }
                int payment = sheet.numbers[i + 1];
                if (!within(payment, 0, mostPayment(store + harvest, debt))) {
                    return i + 1;
                }
                int rest = store + harvest - payment;
                hunger += hungerWith(rest);
                store = keptOf(rest);
                debt -= payment;
            }
            return hunger + 2 * debt > v ? sheet.length : -1;
        }

        private static int mostPayment(int has, int debt) {
            return Math.min(MOST_PAYMENT, Math.min(has, debt));
        }

        private static int hungerWith(int rest) {
            return Math.max(0, MEAL - rest);
        }

        private static int keptOf(int rest) {
            return Math.min(MOST_KEPT, Math.max(0, rest - MEAL));
        }
    }

    private static final class Sheet {
        static final int MOST = 20;

        final int[] numbers = new int[MOST];
        int bits = 0;
        int length = 0;

        boolean isMissing() {
            return bits == 0;
        }

        void begin(int width, int n) {
            bits = width;
            length = n;
            Arrays.fill(numbers, 0);
        }

        void write(int i, int v) {
            numbers[i] = bits == 8 ? (byte) v : bits == 16 ? (short) v : v;
        }

        boolean hasRow(int from, int n) {
            return from >= 0 && n >= 0 && n <= length && from <= length - n;
        }
    }
}
