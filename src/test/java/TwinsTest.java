import java.util.function.Consumer;

/** The looks of Twins are not blind, and the land that the edges are tested on is as its notes say. */
public final class TwinsTest {
    public static void main(String[] args) {
        looksSee();
        looksAgree();
        richLand();
        Check.end();
    }

    private static void looksSee() {
        sees("a person", x -> x.person(0, -1, -1, 0));
        sees("a fear", x -> x.fear(5, 4));
        sees("a stranger", x -> x.lives(1, true, false));
        sees("no stranger", x -> x.lives(Lands.STRANGER, false, true));
        sees("a death", x -> x.die(4));
        sees("a field", x -> x.field(0, 1, false));
        sees("a paper", x -> x.paper(1, 102, 1, 400, 0));
        sees("a word", x -> x.word(Lands.VOID, 0));
        sees("a payment", x -> x.pay(Lands.LOAN, 1));
        sees("a void paper", x -> x.annul(Lands.GIFT));
        sees("shift 0", x -> x.shift(0, 48));
        sees("shift 1", x -> x.shift(1, 11));
        sees("a byte on the tape", x -> x.feed(1, ' '));
        sees("another byte on the tape", x -> {
            x.text(4);
            Check.feed(x, "falls 0;");
        });
        sees("an empty tape", x -> x.text(4));
        sees("a text", x -> {
            x.text(4);
            Check.text(x, 4, "falls 0;back 0;loan 0;");
            Check.feed(x, "falls 1;");
        });
        sees("a law", x -> x.force(3, 1, 400));
        sees("a year", x -> x.year(0));
        sees("sheet 0", x -> x.put(0, 4, 1));
        sees("sheet 1", x -> x.put(1, 19, 29));
        sees("sheet 2", x -> x.put(2, 1, 31));
        sees("sheet 3", x -> x.sheet(3, 32, 0));
        sees("more numbers", x -> x.sheet(3, 8, 1));
        sees("an image", DebtYear::image);
        sees("a restored image", DebtYear::restore);
    }

    private static void sees(String what, Consumer<DebtYear> more) {
        boolean differ = Twins.differ(Lands::rich, x -> {
            Lands.rich(x);
            more.accept(x);
        });
        Check.due("a look sees " + what, differ ? 1 : 0, 1);
    }

    private static void looksAgree() {
        Check.due("lands made alike", Twins.differ(Lands::rich, Lands::rich) ? 1 : 0, 0);
        Check.due("a land and an empty one", Twins.differ(Lands::rich, Lands::empty) ? 1 : 0, 1);
    }

    private static void richLand() {
        DebtYear x = Twins.of(Lands::rich);
        int[] counts = {4, Lands.FIELDS, Lands.PAPERS, 6, Lands.YEAR};
        for (int what = 0; what < counts.length; what++) {
            Check.due("count(" + what + ")", x.count(what), counts[what]);
        }
        int[] states = {2, 0, 0, 0, 0, 0, 3, 1, 0};
        int[] kinds = {0, 1, 2, 3, 4, 6, 5, 1, 1};
        for (int p = 0; p < Lands.PAPERS; p++) {
            Check.due("state of " + p, x.paperIs(p, 9), states[p]);
            Check.due("kind of " + p, x.paperIs(p, 0), kinds[p]);
        }
        int[] holders = {0, 3, 2, 5};
        for (int f = 0; f < Lands.FIELDS; f++) {
            Check.due("holder of " + f, x.fieldIs(f, 2), holders[f]);
        }
        int[] dead = {1, -1, -1, -1, -1, 1};
        int[] serves = {-1, -1, -1, 4, -1, -1};
        for (int p = 0; p < Lands.PERSONS; p++) {
            Check.due("dead " + p, x.personIs(p, 1), dead[p]);
            Check.due("serves " + p, x.personIs(p, 3), serves[p]);
        }
        Check.due("the late one", x.paperIs(Lands.LATE, 5), 1);
        Check.due("findings", x.count(8), 1);
        Check.due("bytes", x.feed(1, ' '), 9);
        Check.due("persons", Twins.of(Lands::fullOfPersons).count(0), 12);
        Check.due("fields", Twins.of(Lands::fullOfFields).count(1), 8);
        Check.due("papers", Twins.of(Lands::fullOfPapers).count(2), 20);
        Check.due("laws", Twins.of(Lands::fullOfLaws).law(1, 400), 11);
        Check.due("the end of time", Twins.of(Lands::endOfTime).count(4), 400);
    }
}
