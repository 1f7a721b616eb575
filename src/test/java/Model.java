import java.util.ArrayList;
import java.util.List;
import java.util.Set;
import java.util.TreeSet;
import java.util.regex.Matcher;
import java.util.regex.Pattern;

/**
 * The document once more, written with the Java library and in another form than the class, so that
 * random runs can be laid beside it. It is slow and keeps no rule of LANGUAGE.md.
 */
final class Model {
    static final class Finding extends RuntimeException {
        private static final long serialVersionUID = 1L;
        final int number;

        Finding(int number) {
            super(null, null, false, false);
            this.number = number;
        }
    }

    record Person(int birth, int one, int two, int dead, int store, int fear, int serves, int hunger, boolean stranger) {
        Person store(int n) {
            return new Person(birth, one, two, dead, n, fear, serves, hunger, stranger);
        }

        Person serves(int n) {
            return new Person(birth, one, two, dead, store, fear, n, hunger, stranger);
        }
    }

    record Field(int worth, int root, int holder, boolean walls) {
    }

    record Paper(int kind, int by, int to, int sum, int paid, int since, int due, int thing, int word, int state) {
        int owed() {
            return sum - paid;
        }

        Paper state(int s) {
            return new Paper(kind, by, to, sum, paid, since, due, thing, word, s);
        }
    }

    record Law(String text, int bench, int from) {
    }

    record Image(List<Person> persons, List<Field> fields, List<Paper> papers, List<Law> laws, List<String> texts,
            int shift0, int shift1, int year, int eaten, int lost) {
    }

    List<Person> persons = new ArrayList<>();
    List<Field> fields = new ArrayList<>();
    List<Paper> papers = new ArrayList<>();
    List<Law> laws = new ArrayList<>();
    List<String> texts = new ArrayList<>(java.util.Arrays.asList(null, null, null, null, null));
    int[] shift = {0, 0};
    int year = 0;
    int eaten = 0;
    int lost = 0;
    int findings = 0;
    StringBuilder tape = new StringBuilder();
    int[][] sheets = new int[4][];
    int[] bits = new int[4];
    Image image = null;

    static void ask(boolean wrong, int finding) {
        if (wrong) {
            throw new Finding(finding);
        }
    }

    static void beyond(boolean wrong) {
        ask(wrong, Check.BEYOND);
    }

    static boolean out(int v, int a, int b) {
        return v < a || v > b;
    }

    boolean noPerson(int p) {
        return out(p, 0, persons.size() - 1);
    }

    boolean noField(int f) {
        return out(f, 0, fields.size() - 1);
    }

    boolean noPaper(int p) {
        return out(p, 0, papers.size() - 1);
    }

    /** The call with its name's place in the document's face, its whole numbers in a row. */
    int call(String name, long[] a) {
        try {
            int[] i = new int[a.length];
            for (int k = 0; k < a.length; k++) {
                i[k] = (int) a[k];
            }
            return answer(name, i, a);
        } catch (Finding f) {
            findings++;
            return f.number;
        }
    }

    private int answer(String name, int[] i, long[] a) {
        switch (name) {
            case "person": return person(i[0], i[1], i[2], i[3]);
            case "lives": return lives(i[0], i[1] != 0);
            case "fear": return fear(i[0], i[1]);
            case "die": return die(i[0]);
            case "personIs": return personIs(i[0], i[1]);
            case "field": return field(i[0], i[1], i[2] != 0);
            case "fieldIs": return fieldIs(i[0], i[1]);
            case "heirs": beyond(noPerson(i[0])); return bits(heirs(i[0], 5));
            case "share": return share(i[0], i[1]);
            case "paper": return paper(i[0], i[1], i[2], i[3], i[4]);
            case "as": return as(i[0], i[1]);
            case "word": return word(i[0], i[1]);
            case "pay": return pay(i[0], i[1]);
            case "annul": return annul(i[0]);
            case "paperIs": return paperIs(i[0], i[1]);
            case "shift": return shift(i[0], i[1]);
            case "left": beyond(out(i[0], 0, 1) || out(i[1], 0, 400)); return left(i[0], i[1]);
            case "feed": return feed(i[0], a[1]);
            case "text": return text(i[0]);
            case "force": return force(i[0], i[1], i[2]);
            case "law": return lawNumber(i[0], i[1]);
            case "falls": judged(i); return judge(papers.get(i[0]), 0, i[1], i[2]);
            case "truly": judged(i); return judge(papers.get(i[0]), 2, i[1], i[2]);
            case "back": beyond(noField(i[0]) || out(i[1], 0, 1) || out(i[2], 0, 400)); return back(i[0], i[1], i[2]) ? 1 : 0;
            case "dress": judged(i); return dress(i[0], i[1], i[2]);
            case "price": beyond(noField(i[0]) || out(i[1], 0, 1)); return fields.get(i[0]).worth * left(i[1], year);
            default: return laterAnswer(name, i);
        }
    }

    private int laterAnswer(String name, int[] i) {
        switch (name) {
            case "year": beyond(out(i[0], 0, 30)); ask(year == 400, Check.FULL); return goBy(i[0]);
            case "years": return years(i[0]);
            case "chain": beyond(noPaper(i[0])); return chain(i[0]);
            case "last": lasting(i); return sure(i[0], i[1], i[2], i[3] / 100, i[3] % 100);
            case "pays": return pays(i);
            case "proves": return proves(i[0], i[1], i[2], i[3]);
            case "sheet": return sheet(i[0], i[1], i[2]);
            case "put": return put(i[0], i[1], i[2]);
            case "copy": return copy(i[0], i[1], i[2], i[3], i[4]);
            case "image": return keep();
            case "restore": return restore();
            case "count": return count(i[0]);
            default: throw new IllegalStateException(name);
        }
    }

    int person(int birth, int one, int two, int store) {
        beyond(out(birth, -99, 300) || birth > year);
        beyond(one != -1 && noPerson(one) || two != -1 && noPerson(two) || one == two && one >= 0);
        beyond(out(store, 0, 9999));
        ask(persons.size() == 14, Check.FULL);
        persons.add(new Person(birth, one, two, -1, store, 3, -1, 0, false));
        return persons.size() - 1;
    }

    int lives(int p, boolean stranger) {
        beyond(noPerson(p));
        Person q = persons.get(p);
        persons.set(p, new Person(q.birth, q.one, q.two, q.dead, q.store, q.fear, q.serves, q.hunger, stranger));
        return 1;
    }

    int fear(int p, int v) {
        beyond(noPerson(p) || out(v, 0, 50));
        Person q = persons.get(p);
        persons.set(p, new Person(q.birth, q.one, q.two, q.dead, q.store, v, q.serves, q.hunger, q.stranger));
        return q.fear;
    }

    int die(int p) {
        beyond(noPerson(p));
        Person q = persons.get(p);
        ask(q.dead != -1, Check.TAKEN);
        persons.set(p, new Person(q.birth, q.one, q.two, year, 0, q.fear, q.serves, q.hunger, q.stranger));
        lost += q.store;
        return q.store;
    }

    int personIs(int p, int what) {
        beyond(noPerson(p) || out(what, 0, 7));
        Person q = persons.get(p);
        int owes = papers.stream().filter(x -> x.state == 0 && x.by == p).mapToInt(Paper::owed).sum();
        int gets = papers.stream().filter(x -> x.state == 0 && x.to == p).mapToInt(Paper::owed).sum();
        int holds = 0;
        for (int f = 0; f < fields.size(); f++) {
            holds += fields.get(f).holder == p ? 1 << f : 0;
        }
        return new int[] {q.birth, q.dead, q.store, q.serves, owes, gets, q.hunger, holds}[what];
    }

    int field(int root, int worth, boolean walls) {
        beyond(noPerson(root) || out(worth, 1, 99));
        ask(fields.size() == 8, Check.FULL);
        fields.add(new Field(worth, root, root, walls));
        return fields.size() - 1;
    }

    int fieldIs(int f, int what) {
        beyond(noField(f) || out(what, 0, 3));
        Field g = fields.get(f);
        return new int[] {g.worth, g.root, g.holder, g.walls ? 1 : 0}[what];
    }

    /** Heirs with so many lives below still to be asked. */
    Set<Integer> heirs(int p, int lives) {
        Set<Integer> all = new TreeSet<>();
        if (persons.get(p).dead == -1) {
            all.add(p);
        } else if (lives > 0) {
            for (int c : children(p)) {
                all.addAll(heirs(c, lives - 1));
            }
        }
        return all;
    }

    List<Integer> children(int p) {
        List<Integer> all = new ArrayList<>();
        for (int c = 0; c < persons.size(); c++) {
            if (persons.get(c).one == p || persons.get(c).two == p) {
                all.add(c);
            }
        }
        return all;
    }

    static int bits(Set<Integer> set) {
        return set.stream().mapToInt(x -> 1 << x).sum();
    }

    int share(int p, int heir) {
        beyond(noPerson(p) || noPerson(heir));
        ask(!heirs(p, 5).contains(heir), Check.NONE);
        TreeSet<Integer> ways = new TreeSet<>();
        ways(p, heir, 5, 1, ways);
        return ways.first();
    }

    void ways(int p, int heir, int lives, int number, Set<Integer> found) {
        if (p == heir && persons.get(p).dead == -1) {
            found.add(number);
        }
        if (persons.get(p).dead == -1 || lives == 0) {
            return;
        }
        List<Integer> sharing = new ArrayList<>(children(p));
        sharing.removeIf(c -> heirs(c, lives - 1).isEmpty());
        for (int c : sharing) {
            ways(c, heir, lives - 1, number * sharing.size(), found);
        }
    }

    int paper(int kind, int who, int sum, int due, int thing) {
        beyond(out(kind, 0, 6) || who < 0 || noPerson(who / 100) || noPerson(who % 100));
        beyond(out(sum, 1, 9999) || out(due, year, 400));
        int by = who / 100;
        int to = who % 100;
        ask(by == to, Check.SIZE);
        ask(persons.get(by).dead >= 0 || persons.get(to).dead >= 0, Check.NONE);
        boolean land = Set.of(2, 3, 4).contains(kind);
        ask(land && (noField(thing) || fields.get(thing).holder != by), Check.MISSING);
        ask(kind == 6 && persons.get(by).serves >= 0, Check.TAKEN);
        ask(papers.size() == 20, Check.FULL);
        papers.add(new Paper(kind, by, to, sum, 0, year, due, land ? thing : -1, 2, 0));
        if (kind == 3 || kind == 4) {
            hold(thing, to);
        }
        if (kind == 6) {
            persons.set(by, persons.get(by).serves(to));
        }
        return papers.size() - 1;
    }

    void hold(int f, int p) {
        Field g = fields.get(f);
        fields.set(f, new Field(g.worth, g.root, p, g.walls));
    }

    int as(int p, int kind) {
        beyond(noPaper(p) || out(kind, 0, 6));
        String[] above = {"0", "10", "210", "30", "430", "50", "6210"};
        ask(above[papers.get(p).kind].indexOf('0' + kind) < 0, Check.KIND);
        return p;
    }

    int word(int p, int v) {
        beyond(noPaper(p) || out(v, 0, 2));
        Paper q = papers.get(p);
        papers.set(p, new Paper(q.kind, q.by, q.to, q.sum, q.paid, q.since, q.due, q.thing, v, q.state));
        return q.word;
    }

    int pay(int p, int n) {
        beyond(noPaper(p) || out(n, 1, 9999));
        Paper q = papers.get(p);
        ask(q.state != 0, Check.NONE);
        ask(n > q.owed(), Check.SIZE);
        ask(n > persons.get(q.by).store, Check.MISSING);
        transfer(p, n);
        return papers.get(p).owed();
    }

    void transfer(int p, int n) {
        Paper q = papers.get(p);
        persons.set(q.by, persons.get(q.by).store(persons.get(q.by).store - n));
        give(q.to, n);
        papers.set(p, new Paper(q.kind, q.by, q.to, q.sum, q.paid + n, q.since, q.due, q.thing, q.word, q.state));
        if (papers.get(p).owed() == 0) {
            close(p, 1);
            if ((q.kind == 3 || q.kind == 4) && fields.get(q.thing).holder == q.to) {
                hold(q.thing, q.by);
            }
        }
    }

    void give(int p, int n) {
        if (persons.get(p).dead >= 0) {
            lost += n;
            return;
        }
        int sum = persons.get(p).store + n;
        lost += Math.max(0, sum - 9999);
        persons.set(p, persons.get(p).store(Math.min(9999, sum)));
    }

    void close(int p, int state) {
        Paper q = papers.get(p);
        papers.set(p, q.state(state));
        if (q.kind == 6) {
            persons.set(q.by, persons.get(q.by).serves(-1));
        }
    }

    int annul(int p) {
        beyond(noPaper(p));
        ask(papers.get(p).state != 0, Check.NONE);
        close(p, 3);
        return papers.get(p).owed();
    }

    int paperIs(int p, int what) {
        beyond(noPaper(p) || out(what, 0, 9));
        Paper q = papers.get(p);
        return new int[] {q.kind, q.by, q.to, q.sum, q.paid, q.since, q.due, q.thing, q.word, q.state}[what];
    }

    int shift(int bench, int v) {
        beyond(out(bench, 0, 1) || out(v, 0, 49));
        int was = shift[bench];
        shift[bench] = v;
        return was;
    }

    int left(int bench, int y) {
        return 50 - (y + shift[bench]) % 50;
    }

    int feed(int n, long bytes) {
        beyond(out(n, 1, 8));
        ask(tape.length() + n > 200, Check.FULL);
        for (int k = 0; k < n; k++) {
            tape.append((char) (bytes >> 8 * k & 255));
        }
        return tape.length();
    }

    int text(int t) {
        beyond(out(t, 0, 4));
        String s = tape.toString();
        tape.setLength(0);
        Reader r = new Reader(s, null);
        int fault = r.fault();
        if (fault == -1) {
            texts.set(t, s);
        }
        return fault;
    }

    /** Reads a text and works it out in one go; names null: only for its fault. */
    static final class Reader {
        private static final Pattern TOKEN = Pattern.compile(" *([a-z]+|[0-9]+|[^ ]|$)", Pattern.DOTALL);
        private static final List<String> NAMES = List.of("kind", "age", "left", "owed", "paid", "sum", "worth", "word",
                "stranger", "walls", "term");
        private final List<String> tokens = new ArrayList<>();
        private final List<Integer> places = new ArrayList<>();
        private final int[] names;
        final int[] clauses = new int[3];
        private int at = 0;

        private static final class Wrong extends RuntimeException {
            private static final long serialVersionUID = 1L;

            Wrong() {
                super(null, null, false, false);
            }
        }

        Reader(String s, int[] names) {
            this.names = names == null ? new int[11] : names;
            Matcher m = TOKEN.matcher(s);
            while (m.lookingAt()) {
                tokens.add(m.group(1));
                places.add(m.start(1));
                if (m.group(1).isEmpty()) {
                    break;
                }
                m.region(m.end(), s.length());
            }
        }

        int fault() {
            try {
                String[] keys = {"falls", "back", "loan"};
                for (int k = 0; k < 3; k++) {
                    take(keys[k]);
                    clauses[k] = or(4);
                    take(";");
                }
                take("");
                return -1;
            } catch (Wrong w) {
                return places.get(at);
            }
        }

        private boolean is(String token) {
            return tokens.get(at).equals(token);
        }

        private void take(String token) {
            if (!is(token)) {
                throw new Wrong();
            }
            if (!token.isEmpty()) {
                at++;
            }
        }

        private int or(int deeper) {
            int v = and(deeper);
            while (is("or")) {
                at++;
                int w = and(deeper);
                v = v != 0 | w != 0 ? 1 : 0;
            }
            return v;
        }

        private int and(int deeper) {
            int v = not(deeper);
            while (is("and")) {
                at++;
                int w = not(deeper);
                v = v != 0 & w != 0 ? 1 : 0;
            }
            return v;
        }

        private int not(int deeper) {
            if (is("not")) {
                deep(deeper);
                at++;
                return not(deeper - 1) == 0 ? 1 : 0;
            }
            int v = sum(deeper);
            if (is("<")) {
                at++;
                return v < sum(deeper) ? 1 : 0;
            }
            if (is("=")) {
                at++;
                return v == sum(deeper) ? 1 : 0;
            }
            return v;
        }

        private int sum(int deeper) {
            int v = one(deeper);
            while (is("+") || is("-")) {
                int sign = is("+") ? 1 : -1;
                at++;
                v += sign * one(deeper);
            }
            return v;
        }

        private int one(int deeper) {
            String t = tokens.get(at);
            if (t.matches("[0-9]{1,4}")) {
                at++;
                return Integer.parseInt(t);
            }
            if (NAMES.contains(t)) {
                at++;
                return names[NAMES.indexOf(t)];
            }
            if (!is("(")) {
                throw new Wrong();
            }
            deep(deeper);
            at++;
            int v = or(deeper - 1);
            take(")");
            return v;
        }

        private void deep(int deeper) {
            if (deeper == 0) {
                throw new Wrong();
            }
        }
    }

    int force(int t, int bench, int from) {
        beyond(out(t, 0, 4) || out(bench, 0, 1) || out(from, 0, 400));
        ask(texts.get(t) == null, Check.NONE);
        ask(laws.size() == 12, Check.FULL);
        laws.add(new Law(texts.get(t), bench, from));
        return laws.size() - 1;
    }

    int lawNumber(int bench, int y) {
        beyond(out(bench, 0, 1) || out(y, 0, 400));
        int n = latest(bench, y);
        ask(n < 0, Check.NONE);
        return n;
    }

    int latest(int bench, int y) {
        int n = -1;
        for (int k = 0; k < laws.size(); k++) {
            if (laws.get(k).bench == bench && laws.get(k).from <= y) {
                n = k;
            }
        }
        return n;
    }

    void judged(int[] i) {
        beyond(noPaper(i[0]) || out(i[1], 0, 1) || out(i[2], 0, 400) || i[2] < papers.get(i[0]).since);
    }

    int clause(int clause, int bench, int y, int[] names) {
        int n = latest(bench, y);
        if (n < 0) {
            return 0;
        }
        Reader r = new Reader(laws.get(n).text, names);
        r.fault();
        return r.clauses[clause];
    }

    int judge(Paper p, int clause, int bench, int y) {
        int yes = 0;
        int stranger = persons.get(p.by).stranger || persons.get(p.to).stranger ? 1 : 0;
        int worth = p.thing < 0 ? 0 : fields.get(p.thing).worth;
        int walls = p.thing >= 0 && fields.get(p.thing).walls ? 1 : 0;
        for (int asked = 0; asked < 2; asked++) {
            int word = p.word == 2 ? asked : p.word;
            int[] names = {p.kind, y - p.since, left(bench, y), p.owed(), p.paid, p.sum, worth, word, stranger, walls, p.due - p.since};
            yes += clause(clause, bench, y, names) != 0 ? 1 : 0;
        }
        return yes;
    }

    boolean back(int f, int bench, int y) {
        Field g = fields.get(f);
        int[] names = {0, 0, left(bench, y), 0, 0, 0, g.worth, 0, persons.get(g.holder).stranger ? 1 : 0, g.walls ? 1 : 0, 0};
        return clause(1, bench, y, names) != 0 && !heirs(g.root, 5).equals(Set.of(g.holder));
    }

    int dress(int p, int bench, int y) {
        Paper q = papers.get(p);
        int kinds = 0;
        for (int k = 0; k < 7; k++) {
            Paper other = new Paper(k, q.by, q.to, q.sum, q.paid, q.since, q.due, q.thing, q.word, q.state);
            kinds += judge(other, 0, bench, y) == 0 ? 1 << k : 0;
        }
        return kinds;
    }

    int goBy(int harvest) {
        for (Field f : fields) {
            give(f.holder, f.worth * harvest / 10);
        }
        int all = 0;
        for (int p = 0; p < persons.size(); p++) {
            if (persons.get(p).dead < 0) {
                all += meal(p);
            }
        }
        for (int p = 0; p < papers.size(); p++) {
            if (papers.get(p).state == 0 && papers.get(p).due <= year) {
                fallDue(p);
            }
        }
        year++;
        if (left(0, year) == 50) {
            strike();
        }
        return all;
    }

    int meal(int p) {
        int lacks = 10 - persons.get(p).store;
        if (lacks <= 0) {
            persons.set(p, persons.get(p).store(-lacks));
            eaten += 10;
            return 0;
        }
        for (int q = 0; q < persons.size() && papers.size() < 20; q++) {
            Person l = persons.get(q);
            boolean dares = persons.get(p).stranger || left(1, year) > l.fear;
            if (q != p && l.dead < 0 && l.store >= 20 + lacks && dares) {
                persons.set(q, l.store(l.store - lacks));
                papers.add(new Paper(1, p, q, lacks, 0, year, Math.min(400, year + 5), -1, 0, 0));
                persons.set(p, persons.get(p).store(0));
                eaten += 10;
                return 0;
            }
        }
        Person h = persons.get(p);
        eaten += h.store;
        persons.set(p, new Person(h.birth, h.one, h.two, h.dead, 0, h.fear, h.serves, h.hunger + lacks, h.stranger));
        return lacks;
    }

    void fallDue(int p) {
        Paper q = papers.get(p);
        if (persons.get(q.by).dead < 0) {
            transfer(p, Math.min(q.owed(), persons.get(q.by).store));
        }
        if (papers.get(p).owed() > 0 && q.kind == 2 && fields.get(q.thing).holder == q.by) {
            hold(q.thing, q.to);
            close(p, 1);
        }
    }

    void strike() {
        for (int p = 0; p < papers.size(); p++) {
            if (papers.get(p).state == 0 && judge(papers.get(p), 0, 0, year) == 2) {
                close(p, 2);
            }
        }
        for (int f = 0; f < fields.size(); f++) {
            Set<Integer> heirs = heirs(fields.get(f).root, 5);
            if (back(f, 0, year) && !heirs.isEmpty()) {
                hold(f, heirs.iterator().next());
            }
        }
    }

    int years(int s) {
        beyond(out(s, 0, 3));
        ask(sheets[s] == null, Check.MISSING);
        int harvest = 10;
        int went = 0;
        for (int v : sheets[s]) {
            if (year == 400) {
                break;
            }
            harvest = out(v, 0, 30) ? harvest : v;
            goBy(harvest);
            went++;
        }
        return went;
    }

    int chain(int paper) {
        Set<Integer> cant = new TreeSet<>();
        while (true) {
            Set<Integer> next = new TreeSet<>();
            for (int p = 0; p < persons.size(); p++) {
                int has = persons.get(p).store;
                int owes = 0;
                for (int k = 0; k < papers.size(); k++) {
                    Paper q = papers.get(k);
                    if (k != paper && q.state == 0) {
                        owes += q.by == p ? q.owed() : 0;
                        has += q.to == p && !cant.contains(q.by) ? q.owed() : 0;
                    }
                }
                if (owes > has) {
                    next.add(p);
                }
            }
            if (next.equals(cant)) {
                return bits(cant);
            }
            cant = next;
        }
    }

    void lasting(int[] i) {
        beyond(out(i[0], 0, 60) || out(i[1], 0, 60) || out(i[2], 0, 8));
        beyond(i[3] < 0 || i[3] / 100 > 30 || i[3] % 100 > 30 || i[3] / 100 > i[3] % 100);
    }

    /** From no years on, a table for each number of years. */
    static int[][] table(int n, int low, int high) {
        int[][] t = new int[61][61];
        for (int[] row : t) {
            for (int o = 0; o <= 60; o++) {
                row[o] = 2 * o;
            }
        }
        for (int y = 0; y < n; y++) {
            int[][] next = new int[61][61];
            for (int s = 0; s <= 60; s++) {
                for (int o = 0; o <= 60; o++) {
                    next[s][o] = Math.max(least(t, s + low, o)[0], least(t, s + high, o)[0]);
                }
            }
            t = next;
        }
        return t;
    }

    /** The least hunger, and by which payment. */
    static int[] least(int[][] t, int has, int o) {
        int[] best = {Integer.MAX_VALUE, -1};
        for (int p = 0; p <= Math.min(9, Math.min(has, o)); p++) {
            int rest = has - p - 10;
            int hunger = Math.max(0, -rest) + t[Math.min(60, Math.max(0, rest))][o - p];
            if (hunger < best[0]) {
                best = new int[] {hunger, p};
            }
        }
        return best;
    }

    static int sure(int s, int o, int n, int low, int high) {
        return table(n, low, high)[s][o];
    }

    int pays(int[] i) {
        lasting(i);
        beyond(i[2] == 0);
        ask(i[4] != i[3] / 100 && i[4] != i[3] % 100, Check.NONE);
        return least(table(i[2] - 1, i[3] / 100, i[3] % 100), i[0] + i[4], i[1])[1];
    }

    int proves(int s, int o, int v, int sheet) {
        beyond(out(s, 0, 60) || out(o, 0, 60) || out(v, 0, 999) || out(sheet, 0, 3));
        ask(sheets[sheet] == null, Check.MISSING);
        int[] row = sheets[sheet];
        int hunger = 0;
        for (int k = 0; k < row.length / 2; k++) {
            if (out(row[2 * k], 0, 30)) {
                return 2 * k;
            }
            s += row[2 * k];
            int p = row[2 * k + 1];
            if (out(p, 0, 9) || p > s || p > o) {
                return 2 * k + 1;
            }
            s -= p;
            o -= p;
            hunger += s < 10 ? 10 - s : 0;
            s = s < 10 ? 0 : Math.min(60, s - 10);
        }
        return hunger + 2 * o <= v ? -1 : row.length;
    }

    int sheet(int s, int b, int n) {
        beyond(out(s, 0, 3) || !Set.of(0, 8, 16, 32).contains(b));
        ask(n < 0, Check.SIZE);
        beyond(n > 20);
        bits[s] = b;
        sheets[s] = b == 0 ? null : new int[n];
        return b == 0 ? 0 : n;
    }

    int put(int s, int i, int v) {
        beyond(out(s, 0, 3));
        ask(sheets[s] == null, Check.MISSING);
        beyond(out(i, 0, sheets[s].length - 1));
        sheets[s][i] = v << 32 - bits[s] >>> 32 - bits[s];
        return 0;
    }

    int copy(int s, int from, int t, int to, int n) {
        beyond(out(s, 0, 3) || out(t, 0, 3));
        ask(sheets[s] == null || sheets[t] == null, Check.MISSING);
        ask(bits[s] != bits[t], Check.KIND);
        beyond(from < 0 || to < 0 || n < 0);
        beyond((long) from + n > sheets[s].length || (long) to + n > sheets[t].length);
        int[] row = sheets[s].clone();
        for (int k = 0; k < n; k++) {
            sheets[t][to + k] = row[from + k];
        }
        return n;
    }

    int keep() {
        image = new Image(List.copyOf(persons), List.copyOf(fields), List.copyOf(papers), List.copyOf(laws),
                new ArrayList<>(texts), shift[0], shift[1], year, eaten, lost);
        return year;
    }

    int restore() {
        ask(image == null, Check.NONE);
        persons = new ArrayList<>(image.persons);
        fields = new ArrayList<>(image.fields);
        papers = new ArrayList<>(image.papers);
        laws = new ArrayList<>(image.laws);
        texts = new ArrayList<>(image.texts);
        shift = new int[] {image.shift0, image.shift1};
        year = image.year;
        eaten = image.eaten;
        lost = image.lost;
        return year;
    }

    int count(int what) {
        beyond(out(what, 0, 8));
        int living = (int) persons.stream().filter(p -> p.dead < 0).count();
        int open = (int) papers.stream().filter(p -> p.state == 0).count();
        int stores = persons.stream().mapToInt(Person::store).sum();
        return new int[] {living, fields.size(), papers.size(), open, year, stores, eaten, lost, findings}[what];
    }
}
