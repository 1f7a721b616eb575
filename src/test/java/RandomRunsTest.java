import java.lang.reflect.Method;
import java.util.ArrayList;
import java.util.Arrays;
import java.util.List;
import java.util.Map;
import java.util.Random;
import java.util.TreeMap;

/**
 * Random runs of 512 calls, the same ones each time, laid beside the Model: each call's answer, and
 * behind some calls all that can be asked. Every method has to give answers of both sorts often.
 */
public final class RandomRunsTest {
    private static final int RUNS = 400;
    private static final int CALLS = 512;

    private static final String[] BUILD = {"person", "person", "person", "field", "field", "paper", "paper", "paper",
        "lives", "fear", "die", "shift", "text", "text", "force", "force", "word", "sheet", "put"};
    private static final String[] USE = {"personIs", "fieldIs", "heirs", "share", "share", "as", "pay", "pay", "annul",
        "paperIs", "paper", "left", "law", "falls", "falls", "truly", "back", "back", "dress", "price", "year", "year",
        "years", "chain", "chain", "last", "pays", "proves", "copy", "put", "put", "image", "restore", "count", "word",
        "text", "force", "feed", "shift", "die", "lives", "sheet", "person", "field"};

    private final Random random;
    private final DebtYear real = new DebtYear();
    private final Model model = new Model();
    private final List<String> log = new ArrayList<>();
    private final boolean wild;
    private static final Map<String, Method> METHODS = new TreeMap<>();
    private static final Map<String, int[]> SEEN = new TreeMap<>();

    private RandomRunsTest(long seed) {
        random = new Random(seed);
        wild = seed % 10 == 0;
    }

    public static void main(String[] args) throws ReflectiveOperationException {
        for (Method m : DebtYear.class.getDeclaredMethods()) {
            if (java.lang.reflect.Modifier.isPublic(m.getModifiers())) {
                METHODS.put(m.getName(), m);
            }
        }
        int runs = args.length > 0 ? Integer.parseInt(args[0]) : RUNS;
        for (int seed = 1; seed <= runs; seed++) {
            new RandomRunsTest(seed).run();
        }
        for (Map.Entry<String, int[]> e : SEEN.entrySet()) {
            if (args.length > 0) {
                System.out.println(e.getKey() + " " + Arrays.toString(e.getValue()));
            }
            boolean never = e.getKey().equals("image");
            Check.due(e.getKey() + " answered often", e.getValue()[0] > 20 ? 1 : 0, 1);
            Check.due(e.getKey() + " found often", never || e.getValue()[1] > 20 ? 1 : 0, 1);
        }
        Check.end();
    }

    private void run() throws ReflectiveOperationException {
        for (int k = 0; k < CALLS; k++) {
            String[] from = k < 60 ? BUILD : USE;
            String name = from[random.nextInt(from.length)];
            if (name.equals("text") && random.nextInt(8) > 0) {
                feedText();
            }
            call(name, arguments(name));
            if (random.nextInt(200) == 0) {
                lookAtAll();
            }
        }
        lookAtAll();
    }

    private void lookAtAll() throws ReflectiveOperationException {
        for (int p = 0; p < model.persons.size(); p++) {
            for (int what = 0; what < 8; what++) {
                call("personIs", p, what);
            }
        }
        for (int f = 0; f < model.fields.size(); f++) {
            call("fieldIs", f, 2);
            call("back", f, 0, model.year);
        }
        for (int p = 0; p < model.papers.size(); p++) {
            for (int what = 0; what < 10; what++) {
                call("paperIs", p, what);
            }
        }
        for (int what = 0; what < 9; what++) {
            call("count", what);
        }
    }

    private void call(String name, long... a) throws ReflectiveOperationException {
        Method m = METHODS.get(name);
        Object[] given = new Object[a.length];
        for (int k = 0; k < a.length; k++) {
            Class<?> type = m.getParameterTypes()[k];
            given[k] = type == long.class ? (Object) a[k] : type == boolean.class ? (Object) (a[k] != 0) : (Object) (int) a[k];
        }
        log.add(name + Arrays.toString(given));
        int got = (Integer) m.invoke(real, given);
        int want = model.call(name, a);
        SEEN.computeIfAbsent(name, n -> new int[2])[want < -99999 ? 1 : 0]++;
        if (got != want) {
            System.out.println(String.join("\n", log));
            Check.due(name + Arrays.toString(given), got, want);
            Check.end();
        }
    }

    private void feedText() throws ReflectiveOperationException {
        String text = "falls " + either(2) + ";back " + either(2) + ";loan " + either(2) + ";";
        if (random.nextInt(6) == 0) {
            int place = random.nextInt(text.length());
            String[] odd = {"", " ", "(", ")", "not ", ";", "12345", "x", "<", "\t", "+", "kind", "(((", "=", "1", " or ", "\u00ff"};
            text = text.substring(0, place) + odd[random.nextInt(odd.length)] + text.substring(place + random.nextInt(2));
        }
        text = text.substring(0, Math.min(200, text.length()));
        while (!text.isEmpty()) {
            int n = Math.min(text.length(), 1 + random.nextInt(8));
            call("feed", n, Check.bytes(text.substring(0, n)) | (n < 8 ? random.nextLong() << 8 * n : 0));
            text = text.substring(n);
        }
    }

    private String either(int depth) {
        String e = both(depth);
        return random.nextInt(4) == 0 ? e + " or " + both(depth) : e;
    }

    private String both(int depth) {
        String e = negated(depth);
        return random.nextInt(4) == 0 ? e + " and " + negated(depth) : e;
    }

    private String negated(int depth) {
        if (random.nextInt(5) == 0) {
            return depth > 0 ? "not " + negated(depth - 1) : "not word";
        }
        String e = total(depth);
        return random.nextInt(3) > 0 ? e + (random.nextBoolean() ? "<" : "=") + total(depth) : e;
    }

    private String total(int depth) {
        String e = one(depth);
        return random.nextInt(5) == 0 ? e + (random.nextBoolean() ? "+" : " - ") + one(depth) : e;
    }

    private String one(int depth) {
        if (depth > 0 && random.nextInt(7) == 0) {
            return "(" + either(depth - 1) + ")";
        }
        if (random.nextInt(3) == 0) {
            return "" + (random.nextBoolean() ? random.nextInt(8) : random.nextInt(200));
        }
        String[] names = {"kind", "age", "left", "owed", "paid", "sum", "worth", "word", "stranger", "walls", "term", "word"};
        return names[random.nextInt(names.length)];
    }

    /** A number of a range, or seldom one beside it. */
    private int of(int least, int most) {
        int odd = random.nextInt(wild ? 12 : 60);
        if (odd == 0) {
            int[] beside = {least - 1, most + 1, Integer.MIN_VALUE, Integer.MAX_VALUE, -1, least, most, random.nextInt()};
            return beside[random.nextInt(beside.length)];
        }
        return most < least ? least : least + random.nextInt(most - least + 1);
    }

    private int aPerson() {
        return of(0, model.persons.size() - 1);
    }

    private int aField() {
        return of(0, model.fields.size() - 1);
    }

    private int aPaper() {
        return of(0, model.papers.size() - 1);
    }

    private int measures() {
        return random.nextInt(5) == 0 ? of(0, 9999) : of(0, 120);
    }

    private int harvests() {
        int low = of(0, 30);
        return random.nextInt(10) == 0 ? random.nextInt(4000) - 200 : 100 * low + of(Math.max(0, Math.min(30, low)), 30);
    }

    private int due() {
        return random.nextInt(3) == 0 ? 400 : of(model.year, Math.min(400, model.year + 8));
    }

    private long[] arguments(String name) {
        switch (name) {
            case "person": {
                int n = model.persons.size() - 1;
                int one = random.nextInt(4) == 0 ? -1 : of(-1, n);
                return row(of(-99, Math.min(300, model.year)), one, random.nextBoolean() ? -1 : of(-1, n), measures());
            }
            case "lives": return row(aPerson(), random.nextInt(2), random.nextInt(2));
            case "fear": return row(aPerson(), random.nextBoolean() ? of(0, 50) : of(0, 5));
            case "die": return row(aPerson());
            case "personIs": return row(aPerson(), of(0, 7));
            case "field": return row(aPerson(), of(1, random.nextInt(3) == 0 ? 99 : 15), random.nextInt(2));
            case "fieldIs": return row(aField(), of(0, 3));
            case "heirs": return row(aPerson());
            case "share": {
                int p = aPerson();
                Object[] heirs = model.noPerson(p) || random.nextInt(4) == 0 ? new Object[0] : model.heirs(p, 5).toArray();
                return row(p, heirs.length == 0 ? aPerson() : (Integer) heirs[random.nextInt(heirs.length)]);
            }
            case "paper": return paperArguments();
            case "as": return row(aPaper(), of(0, 6));
            case "word": return row(aPaper(), of(0, 2));
            case "pay": {
                int p = aPaper();
                for (int k = 0; k < model.papers.size() && random.nextInt(10) > 0; k++) {
                    p = model.papers.get(k).state() == 0 && random.nextBoolean() ? k : p;
                }
                int owed = model.noPaper(p) ? 9 : model.papers.get(p).owed();
                int has = model.noPaper(p) ? 9 : model.persons.get(model.papers.get(p).by()).store();
                return row(p, random.nextInt(4) == 0 ? of(1, 30) : of(1, Math.max(1, Math.min(owed, has))));
            }
            case "annul": return row(aPaper());
            case "paperIs": return row(aPaper(), of(0, 9));
            case "shift": return row(of(0, 1), random.nextBoolean() ? of(40, 49) : of(0, 49));
            case "left": return row(of(0, 1), of(0, 400));
            case "feed": return row(of(1, 8), random.nextLong());
            case "text": return row(of(0, 4));
            case "force": return row(of(0, 4), of(0, 1), random.nextBoolean() ? 0 : of(0, 400));
            case "law": return row(of(0, 1), of(0, 400));
            case "falls": case "truly": case "dress": {
                int p = aPaper();
                int since = model.noPaper(p) ? 0 : model.papers.get(p).since();
                return row(p, of(0, 1), random.nextBoolean() ? of(since, 400) : of(0, 400));
            }
            default: return laterArguments(name);
        }
    }

    private long[] laterArguments(String name) {
        switch (name) {
            case "back": return row(aField(), of(0, 1), of(0, 400));
            case "price": return row(aField(), of(0, 1));
            case "year": return row(of(0, random.nextBoolean() ? 30 : 12));
            case "years": return row(of(0, 3));
            case "chain": return row(aPaper());
            case "last": return row(of(0, 60), of(0, 60), of(0, random.nextInt(6) == 0 ? 8 : 3), harvests());
            case "pays": {
                int h = harvests();
                return row(of(0, 60), of(0, 60), of(0, 4), h, random.nextBoolean() ? h / 100 : of(h % 100, h % 100));
            }
            case "proves": return row(of(0, 60), of(0, 60), of(0, random.nextBoolean() ? 999 : 90), of(0, 3));
            case "sheet": return row(of(0, 3), new int[] {8, 8, 8, 16, 32, 0}[random.nextInt(6)] + random.nextInt(12) / 11, of(0, 20));
            case "put": {
                int s = of(0, 3);
                int n = s < 0 || s > 3 || model.sheets[s] == null ? 3 : model.sheets[s].length;
                int v = random.nextInt(5) == 0 ? random.nextInt() : random.nextInt(5) == 0 ? of(0, 30) : of(0, 9);
                return row(s, of(0, n - 1), v + (random.nextInt(4) == 0 ? 256 : 0));
            }
            case "copy": return row(of(0, 3), of(0, 5), of(0, 3), of(0, 5), of(0, 5));
            case "count": return row(of(0, 8));
            default: return new long[0];
        }
    }

    private long[] paperArguments() {
        int by = aPerson();
        int thing = aField();
        if (!model.noField(thing) && random.nextInt(4) > 0) {
            by = model.fields.get(thing).holder();
        }
        int who = random.nextInt(30) == 0 ? random.nextInt(2000) - 200 : 100 * by + aPerson();
        return row(of(0, 6), who, random.nextInt(4) == 0 ? of(1, 9999) : of(1, 100), due(), thing);
    }

    private static long[] row(long... a) {
        return a;
    }
}
