import java.util.ArrayList;
import java.util.List;
import java.util.function.Consumer;
import java.util.function.ToIntFunction;

/**
 * Two objects made alike, of which one is asked something more. Then both are looked at, also in
 * ways that use them up (so each way has twins of its own): no answer may differ. A look keeps to
 * some 400 calls, as an object is good for 512.
 */
final class Twins {
    private interface Look {
        void at(DebtYear x, List<Integer> seen);
    }

    private static final int[] YEARS = {0, 1, 2, 9, 10, 29, 30, 49, 50, 51, 100, 299, 399, 400};

    private static final List<Look> LOOKS = List.of(
            Twins::persons,
            Twins::kin,
            Twins::fieldsAndPapers,
            Twins::benches,
            Twins::judgements,
            Twins::texts,
            Twins::tape,
            (x, seen) -> sheet(x, 0, seen),
            (x, seen) -> sheet(x, 1, seen),
            (x, seen) -> sheet(x, 2, seen),
            (x, seen) -> sheet(x, 3, seen),
            Twins::image,
            Twins::thrift,
            Twins::yearsToCome);

    private Twins() {
    }

    /** The act answers so, and changes nothing; only count(8) is one more, if it is a finding. */
    static void keep(String what, int want, Consumer<DebtYear> made, ToIntFunction<DebtYear> act) {
        for (int k = 0; k < LOOKS.size(); k++) {
            DebtYear asked = of(made);
            DebtYear other = of(made);
            Check.due(what, act.applyAsInt(asked), want);
            Check.due(what + ": count(8)", asked.count(8), other.count(8) + (want < -99999 ? 1 : 0));
            Check.due(what + ": look " + k + " sees a difference", seen(asked, k).equals(seen(other, k)) ? 0 : 1, 0);
        }
    }

    /** The act answers so; what it changes is not looked at. */
    static void answer(String what, int want, Consumer<DebtYear> made, ToIntFunction<DebtYear> act) {
        Check.due(what, act.applyAsInt(of(made)), want);
    }

    static DebtYear of(Consumer<DebtYear> made) {
        DebtYear x = new DebtYear();
        made.accept(x);
        return x;
    }

    /** Whether any look can tell these apart: for the test of the looks themselves. */
    static boolean differ(Consumer<DebtYear> one, Consumer<DebtYear> two) {
        for (int k = 0; k < LOOKS.size(); k++) {
            if (!seen(of(one), k).equals(seen(of(two), k))) {
                return true;
            }
        }
        return false;
    }

    private static List<Integer> seen(DebtYear x, int look) {
        List<Integer> seen = new ArrayList<>();
        LOOKS.get(look).at(x, seen);
        return seen;
    }

    private static int personCount(DebtYear x) {
        int n = 0;
        while (n < 20 && x.personIs(n, 0) != Check.BEYOND) {
            n++;
        }
        return n;
    }

    private static void counts(DebtYear x, List<Integer> seen) {
        for (int what = 0; what < 8; what++) {
            seen.add(x.count(what));
        }
    }

    private static void persons(DebtYear x, List<Integer> seen) {
        counts(x, seen);
        int persons = personCount(x);
        for (int p = 0; p < persons; p++) {
            for (int what = 0; what < 8; what++) {
                seen.add(x.personIs(p, what));
            }
            seen.add(x.fear(p, 0));
        }
    }

    private static void kin(DebtYear x, List<Integer> seen) {
        int n = personCount(x);
        for (int p = 0; p < n; p++) {
            seen.add(x.die(p));
            seen.add(x.heirs(p));
            for (int q = p + 1; q < n && q < p + 4; q++) {
                seen.add(x.share(p, q));
            }
        }
    }

    private static void fieldsAndPapers(DebtYear x, List<Integer> seen) {
        int fields = x.count(1);
        int papers = x.count(2);
        for (int f = 0; f < fields; f++) {
            for (int what = 0; what < 4; what++) {
                seen.add(x.fieldIs(f, what));
            }
        }
        for (int p = 0; p < papers; p++) {
            for (int what = 0; what < 10; what++) {
                seen.add(x.paperIs(p, what));
            }
        }
    }

    private static void benches(DebtYear x, List<Integer> seen) {
        for (int bench = 0; bench < 2; bench++) {
            for (int year : YEARS) {
                seen.add(x.law(bench, year));
                seen.add(x.left(bench, year));
            }
            seen.add(x.shift(bench, 0));
        }
    }

    private static void judgements(DebtYear x, List<Integer> seen) {
        int papers = x.count(2);
        int fields = x.count(1);
        for (int bench = 0; bench < 2; bench++) {
            for (int p = 0; p < papers; p++) {
                seen.add(x.falls(p, bench, x.count(4)));
                seen.add(x.truly(p, bench, 400));
                seen.add(x.dress(p, bench, 45));
            }
            for (int f = 0; f < fields; f++) {
                seen.add(x.back(f, bench, 1));
                seen.add(x.back(f, bench, 400));
                seen.add(x.price(f, bench));
            }
        }
    }

    private static void texts(DebtYear x, List<Integer> seen) {
        int papers = x.count(2);
        int fields = x.count(1);
        for (int t = 0; t < 5; t++) {
            seen.add(x.force(t, 0, 0));
            for (int p = 0; p < papers; p++) {
                seen.add(x.falls(p, 0, 400));
                seen.add(x.truly(p, 0, 44));
            }
            for (int f = 0; f < fields; f++) {
                seen.add(x.back(f, 0, 400));
            }
        }
    }

    /** Lands leave a first clause on THE TAPE, which is seen at work if the others come behind it. */
    private static void tape(DebtYear x, List<Integer> seen) {
        seen.add(x.feed(1, ' '));
        Check.feed(x, "back 0;loan kind=1;");
        seen.add(x.text(1));
        seen.add(x.force(1, 1, 0));
        seen.add(x.feed(1, ' '));
        int papers = x.count(2);
        for (int p = 0; p < papers; p++) {
            seen.add(x.falls(p, 1, 400));
            seen.add(x.truly(p, 1, 400));
        }
    }

    private static void sheet(DebtYear x, int s, List<Integer> seen) {
        int other = (s + 1) % 4;
        for (int bits = 8; bits <= 32; bits *= 2) {
            x.sheet(other, bits, 6);
            int copied = x.copy(s, 0, other, 0, 0);
            seen.add(copied);
            for (int i = 0; copied == 0 && i <= 20 && x.copy(s, i, other, 0, 1) == 1; i++) {
                seen.add(harvest(x, other));
            }
        }
    }

    /** A sheet's first number, if five times 0 stands behind it: in three years it spares as much of 30. */
    private static int harvest(DebtYear x, int s) {
        int low = 0;
        int high = 31;
        while (low < high) {
            int v = (low + high) / 2;
            if (x.proves(0, 0, v, s) == -1) {
                high = v;
            } else {
                low = v + 1;
            }
        }
        return 30 - low;
    }

    private static void image(DebtYear x, List<Integer> seen) {
        seen.add(x.restore());
        counts(x, seen);
        int persons = personCount(x);
        for (int p = 0; p < persons; p++) {
            for (int what = 0; what < 8; what++) {
                seen.add(x.personIs(p, what));
            }
            seen.add(x.fear(p, 0));
        }
        int papers = x.count(2);
        for (int p = 0; p < papers; p++) {
            seen.add(x.paperIs(p, 4));
            seen.add(x.paperIs(p, 9));
            seen.add(x.falls(p, 0, 400));
        }
        for (int t = 0; t < 5; t++) {
            seen.add(x.force(t, 0, 0));
        }
        seen.add(x.shift(0, 0));
        seen.add(x.shift(1, 0));
    }

    private static void thrift(DebtYear x, List<Integer> seen) {
        int[] harvests = {520, 520, 30, 1010};
        for (int h : harvests) {
            seen.add(x.last(25, 30, 4, h));
            seen.add(x.pays(25, 30, 4, h, h % 100));
            seen.add(x.last(60, 60, 2, h));
        }
    }

    private static void yearsToCome(DebtYear x, List<Integer> seen) {
        int persons = personCount(x);
        int papers = 0;
        int[] harvests = {7, 0, 13, 0, 30};
        for (int h : harvests) {
            seen.add(x.year(h));
            counts(x, seen);
            papers = x.count(2);
            for (int p = 0; p < persons; p++) {
                seen.add(x.personIs(p, 2));
                seen.add(x.personIs(p, 6));
            }
            for (int p = 0; p < papers; p++) {
                seen.add(x.paperIs(p, 2));
            }
        }
        for (int p = 0; p < papers; p++) {
            seen.add(x.chain(p));
        }
    }
}
