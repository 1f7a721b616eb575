/** The boundaries and findings of TEXTS (Terms 3) and promises 19 and 20, a test of each side of each. */
public final class TextsEdgesTest {
    private static final String REST = ";back 1;loan 1;";
    private static final String[] NAMES = {"kind", "age", "left", "owed", "paid", "sum", "worth", "word", "stranger", "walls", "term"};
    private static final String[] KEYS = {"falls", "back", "loan", "or", "and", "not"};

    public static void main(String[] args) {
        feedFindings();
        twoHundredBytes();
        lowestBytes();
        textFindings();
        textsOwnTheirPlaces();
        faultKeepsText();
        endsTooEarly();
        tokensThatCantStand();
        everyByte();
        numbers();
        words();
        tokensAreAsLongAsCanBe();
        blanks();
        clausesInOrder();
        nesting();
        nestingBesideEachOther();
        oneComparison();
        longTexts();
        Check.end();
    }

    private static void fault(String text, int place) {
        DebtYear x = new DebtYear();
        Check.due("text '" + text + "'", Check.text(x, 0, text), place);
        Check.due("a fault is no finding", x.count(8), 0);
        Check.due("the tape is empty", x.feed(1, ' '), 1);
        Check.due("told or not: " + text, x.force(0, 0, 0), place == -1 ? 0 : Check.NONE);
    }

    private static void right(String text) {
        fault(text, -1);
    }

    private static void feedFindings() {
        int[] wrong = {0, 9, -1, Integer.MIN_VALUE, Integer.MAX_VALUE};
        for (int n : wrong) {
            Twins.keep("feed " + n, Check.BEYOND, Lands::rich, x -> x.feed(n, 0));
            Twins.keep("BEYOND ahead of FULL: " + n, Check.BEYOND, x -> Lands.fedTo(x, 200), x -> x.feed(n, 0));
        }
        for (int n = 1; n <= 8; n++) {
            int bytes = n;
            Twins.answer("feed " + n, 8 + n, Lands::rich, x -> x.feed(bytes, -1L));
        }
    }

    /** THE TAPE (200 bytes at most). */
    private static void twoHundredBytes() {
        for (int n = 1; n <= 8; n++) {
            int bytes = n;
            Twins.answer("just full by " + n, 200, x -> Lands.fedTo(x, 200 - bytes), x -> x.feed(bytes, 0));
            Twins.keep("one too many by " + n, Check.FULL, x -> Lands.fedTo(x, 201 - bytes), x -> x.feed(bytes, 0));
            Twins.keep("full: " + n, Check.FULL, x -> Lands.fedTo(x, 200), x -> x.feed(bytes, 0));
        }
        DebtYear x = new DebtYear();
        for (int i = 1; i <= 200; i++) {
            Check.due("byte " + i, x.feed(1, ' '), i);
        }
        Check.due("byte 201", x.feed(1, ' '), Check.FULL);
        Check.due("200 blanks", x.text(0), 200);
        Check.due("empty then", x.feed(8, 0), 8);
    }

    private static void lowestBytes() {
        String text = "falls 1;back 1;loan 1;";
        for (int n = 1; n <= 8; n++) {
            DebtYear x = new DebtYear();
            for (int from = 0; from < text.length(); from += n) {
                String chunk = text.substring(from, Math.min(text.length(), from + n));
                long above = chunk.length() < 8 ? -1L << 8 * chunk.length() : 0;
                Check.due("feed", x.feed(chunk.length(), Check.bytes(chunk) | above), from + chunk.length());
            }
            Check.due("by " + n + " bytes", x.text(0), -1);
        }
        DebtYear x = new DebtYear();
        x.feed(8, -1L);
        Check.due("the highest bytes", x.text(0), 0);
    }

    private static void textFindings() {
        int[] wrong = {-1, 5, Integer.MIN_VALUE, Integer.MAX_VALUE};
        for (int t : wrong) {
            Twins.keep("text " + t, Check.BEYOND, Lands::rich, x -> x.text(t));
            Twins.keep("text " + t + " of a right tape", Check.BEYOND, x -> Check.feed(x, "falls 1" + REST), x -> x.text(t));
            Twins.keep("text " + t + " of an empty tape", Check.BEYOND, Lands::empty, x -> x.text(t));
            Twins.keep("text " + t + " of a full tape", Check.BEYOND, x -> Lands.fedTo(x, 200), x -> x.text(t));
        }
    }

    /** TEXTS 0 to 4. */
    private static void textsOwnTheirPlaces() {
        DebtYear x = new DebtYear();
        x.person(0, -1, -1, 0);
        x.person(0, -1, -1, 0);
        for (int t = 0; t < 5; t++) {
            Check.due("text " + t, Check.text(x, t, "falls sum=" + (t + 1) + REST), -1);
            Check.due("paper", x.paper(0, 1, t + 1, 0, 0), t);
        }
        for (int t = 0; t < 5; t++) {
            Check.due("force " + t, x.force(t, 0, 0), t);
            for (int p = 0; p < 5; p++) {
                Check.due("paper " + p + " by text " + t, x.falls(p, 0, 0), p == t ? 2 : 0);
            }
        }
    }

    /** With a FAULT its place, and TEXT t stays; THE TAPE is empty then. */
    private static void faultKeepsText() {
        DebtYear x = new DebtYear();
        x.person(0, -1, -1, 0);
        x.person(0, -1, -1, 0);
        x.paper(0, 1, 5, 0, 0);
        Check.text(x, 2, "falls sum=5" + REST);
        Check.due("a fault", Check.text(x, 2, "falls sum=6" + REST + "falls"), 26);
        Check.due("a fault of an empty tape", x.text(2), 0);
        Check.due("a fault elsewhere", Check.text(x, 1, "falls"), 5);
        Check.due("it stays", x.force(2, 0, 0), 0);
        Check.due("as it was", x.falls(0, 0, 0), 2);
        Check.due("that one was never told", x.force(1, 0, 0), Check.NONE);
        Check.due("told anew", Check.text(x, 2, "falls sum=6" + REST), -1);
        Check.due("the law is as it was", x.falls(0, 0, 0), 2);
        x.force(2, 0, 0);
        Check.due("a new law", x.falls(0, 0, 0), 0);
    }

    private static final String ALL = "falls not ( kind + 12 - age ) < 2 and word or sum = 3 ; back 1 ; loan not not 2 ;";

    /** The text's length if it ends too early. */
    private static void endsTooEarly() {
        right(ALL);
        String[] tokens = ALL.split(" ");
        String text = "";
        fault("", 0);
        fault(" ", 1);
        for (int k = 0; k + 1 < tokens.length; k++) {
            text += (k == 0 ? "" : " ") + tokens[k];
            fault(text, text.length());
            fault(text + " ", text.length() + 1);
            fault(text + "   ", text.length() + 3);
        }
    }

    /** A token that can stand nowhere, in the place of each one and ahead of each one. */
    private static void tokensThatCantStand() {
        String[] tokens = ALL.split(" ");
        String[] wrong = {"x", "kinds", "12345", "00000", "?", ".", "A", "&lt", "\u0000", "\u00ff", "\t"};
        int place = 0;
        for (int k = 0; k < tokens.length; k++) {
            String before = ALL.substring(0, place);
            String behind = ALL.substring(place + tokens[k].length());
            for (String w : wrong) {
                fault(before + w + behind, place);
                fault(before + w + " " + tokens[k] + behind, place);
            }
            place += tokens[k].length() + 1;
        }
        fault(ALL + "x", ALL.length());
        fault(ALL + " 1", ALL.length() + 1);
        fault(ALL + ";", ALL.length());
    }

    /** SIGNS ( ) ; + - < = ; blanks (32): each of the 256 bytes, where a number could end, begin, behind all and ahead of all. */
    private static void everyByte() {
        String right = "falls 1" + REST;
        for (int b = 0; b < 256; b++) {
            String sign = "" + (char) b;
            boolean digit = b >= '0' && b <= '9';
            boolean works = b == '+' || b == '-' || b == '<' || b == '=' || b == ';';
            fault("falls 1" + sign + REST, b == ' ' || digit ? -1 : works ? 8 : 7);
            fault("falls " + sign + REST, digit ? -1 : b == ' ' || b == '(' ? 7 : 6);
            fault(right + sign, b == ' ' ? -1 : 22);
            fault(sign + right, b == ' ' ? -1 : 0);
        }
    }

    /** A NUMBER (digits, 4 at most). */
    private static void numbers() {
        String digits = "";
        for (int n = 1; n <= 12; n++) {
            digits += n % 10;
            fault("falls " + digits + REST, n <= 4 ? -1 : 6);
            fault("falls 1+" + digits + REST, n <= 4 ? -1 : 8);
            fault("falls 1 " + digits + REST, 8);
            fault("falls " + "0".repeat(n) + REST, n <= 4 ? -1 : 6);
            fault("falls 1;back 1;loan " + digits + ";", n <= 4 ? -1 : 20);
        }
        fault("falls 1234 5" + REST, 11);
        right("falls 9999+9999" + REST);
        fault("1falls 1" + REST, 0);
        fault("falls 12345" + REST + "x", 6);
        fault("falls 1 1 12345" + REST, 8);
    }

    private static void words() {
        for (String name : NAMES) {
            right("falls " + name + REST);
            right("falls 1;back " + name + ";loan " + name + "+" + name + ";");
            fault("falls " + name + "x" + REST, 6);
            fault("falls x" + name + REST, 6);
            fault("falls " + name.substring(1) + REST, 6);
            fault("falls " + name.substring(0, name.length() - 1) + REST, 6);
            fault("falls " + name.toUpperCase(java.util.Locale.ROOT) + REST, 6);
            fault("falls " + name + name + REST, 6);
            fault("falls " + name + " " + name + REST, 7 + name.length());
            fault(name + " 1" + REST, 0);
        }
        for (String key : KEYS) {
            fault("falls " + key + REST, key.equals("not") ? 9 : 6);
            fault("falls 1 " + key + REST, key.equals("or") || key.equals("and") ? 8 + key.length() : 8);
            fault("falls 1+" + key + " 1" + REST, 8);
            fault("falls (" + key + REST, key.equals("not") ? 10 : 7);
            fault("falls 1<" + key + " 1" + REST, 8);
            fault("falls 1;back 1;loan 1;" + key, 22);
        }
    }

    /** TOKENS, each as long as can be. */
    private static void tokensAreAsLongAsCanBe() {
        right("falls1;back1;loan1;");
        right("falls1or2and3;back not1;loan(1)or(2)and not(3);");
        right("falls kind<age;back 1<2;loan 1=2;");
        fault("fallskind;back 1;loan 1;", 0);
        fault("falls kindor 1" + REST, 6);
        fault("falls notkind" + REST, 6);
        fault("falls kind1" + REST, 10);
        fault("falls 1kind" + REST, 7);
        fault("falls 1 orkind" + REST, 8);
        fault("falls 12 34" + REST, 9);
        fault("falls k ind" + REST, 6);
        fault("fal ls 1" + REST, 0);
        fault("falls 1;bac k 1;loan 1;", 8);
    }

    /** Blanks (32) may stand between. */
    private static void blanks() {
        right(" falls 1 ; back 1 ; loan 1 ; ");
        right("falls ( 1 + 2 ) < 3 ; back not  not   1;loan 1    ;");
        int[] others = {0, 9, 10, 11, 12, 13, 31, 33, 127, 160};
        for (int b : others) {
            fault("falls" + (char) b + "1" + REST, 5);
            fault("falls 1;" + (char) b + "back 1;loan 1;", 8);
        }
    }

    private static void clausesInOrder() {
        String[] keys = {"falls", "back", "loan"};
        for (String one : keys) {
            for (String two : keys) {
                for (String three : keys) {
                    String text = one + " 1;" + two + " 1;" + three + " 1;";
                    int second = one.length() + 3;
                    int third = second + two.length() + 3;
                    int place = !one.equals("falls") ? 0 : !two.equals("back") ? second : !three.equals("loan") ? third : -1;
                    fault(text, place);
                }
            }
        }
        fault("falls 1;back 1;", 15);
        fault("falls 1;loan 1;", 8);
        fault("falls 1;back 1;loan 1;loan 1;", 22);
        fault("falls 1 back 1;loan 1;", 8);
        fault(";falls 1;back 1;loan 1;", 0);
    }

    /** A ( or not that lies in 4 others of these: each way to nest six of them. */
    private static void nesting() {
        for (int depth = 1; depth <= 6; depth++) {
            for (int ways = 0; ways < 1 << depth; ways++) {
                String text = "falls 1 and ";
                String closes = "";
                int place = -1;
                for (int k = 0; k < depth; k++) {
                    boolean opens = (ways >> k & 1) == 1;
                    place = k == 4 ? text.length() : place;
                    text += opens ? "(" : "not ";
                    closes += opens ? ")" : "";
                }
                fault(text + "1" + closes + REST, place);
                fault("falls 1;back 1;loan " + text.substring(12) + "1" + closes + ";", place < 0 ? -1 : place + 8);
            }
        }
    }

    private static void nestingBesideEachOther() {
        right("falls ((((1))))+((((1))))<((((1)))) and ((((1)))) or not not not not 1" + REST);
        right("falls ((((1)+(2))+(3))+(4))+(5)" + REST);
        right("falls (1)+(2)+(3)+(4)+(5)+(6)+(7)" + REST);
        right("falls not 1 and not 1 and not 1 and not 1 and not 1 and not 1" + REST);
        // What a comparison compares lies in the not ahead of it, what an and joins does not.
        right("falls not 1<(((1)))" + REST);
        fault("falls not 1<((((1))))" + REST, 15);
        right("falls not 1+(((1)))" + REST);
        fault("falls not 1+((((1))))" + REST, 15);
        right("falls not 1 and ((((1))))" + REST);
        fault("falls not 1 and (((((1)))))" + REST, 20);
        right("falls (not 1 or ((not 1)))" + REST);
        right("falls (not 1 or (not(1)))" + REST);
        fault("falls (not 1 or (not(not 1)))" + REST, 21);
        fault("falls (not 1 or (not((1))))" + REST, 21);
        fault("falls (((((" + REST, 10);
        fault("falls ((((" + REST, 10);
    }

    /** NOT: SUM, perhaps < or = and a SUM. */
    private static void oneComparison() {
        String[] signs = {"<", "="};
        for (String s : signs) {
            right("falls 1" + s + "2" + REST);
            right("falls (1" + s + "2)" + s + "3" + REST);
            for (String z : signs) {
                fault("falls 1" + s + "2" + z + "3" + REST, 9);
                fault("falls 1" + s + z + "3" + REST, 8);
            }
            fault("falls " + s + "1" + REST, 6);
            fault("falls 1" + s + REST, 8);
            fault("falls 1" + s + "not 2" + REST, 8);
            right("falls 1" + s + "(not 2)" + REST);
        }
    }

    private static void longTexts() {
        String end = ";back1;loan1;";
        String sums = "falls1" + "+1".repeat(90) + end;
        Check.due("length", sums.length(), 199);
        right(sums);
        right(sums + " ");
        right(" " + sums);
        fault(sums + "+", 199);
        fault(sums.substring(0, 198) + " x", 199);
        fault("falls" + "1+".repeat(97) + "1", 200);
        fault("falls" + "1+".repeat(97) + " ", 200);
        fault("falls" + "1+".repeat(97) + "+", 199);
        fault("1".repeat(200), 0);
        fault("a".repeat(200), 0);
        fault("falls" + "1".repeat(195), 5);
        fault(" ".repeat(178) + "falls 1;back 1;loan 1;", -1);
        fault(" ".repeat(179) + "falls 1;back 1;loan 1", 200);
        fault(" ".repeat(200), 200);
        fault(" ".repeat(199) + ";", 199);
        fault(" ".repeat(197) + "fal", 197);
        fault(" ".repeat(195) + "falls", 200);
        fault("falls" + " ".repeat(192) + "kin", 197);
        fault("falls" + " ".repeat(192) + "not", 200);
        String ones = "falls(1)" + "+(1)".repeat(44) + ";back(1);loan1;";
        Check.due("length", ones.length(), 199);
        right(ones);
        DebtYear x = new DebtYear();
        x.person(0, -1, -1, 0);
        x.person(0, -1, -1, 0);
        x.paper(0, 1, 91, 0, 0);
        Check.rule(x, "(1" + "+1".repeat(79) + ")=80", "0", "0");
        Check.due("eighty times 1", x.falls(0, 0, 0), 2);
        Check.rule(x, "1" + "-1".repeat(80) + "=0-79", "0", "0");
        Check.due("1 less eighty times 1", x.falls(0, 0, 0), 2);
        Check.rule(x, "1" + "-1".repeat(80) + "+79=0", "0", "0");
        Check.due("1 less eighty times 1", x.falls(0, 0, 0), 2);
        Check.rule(x, "9999" + "+9999".repeat(29) + "<9999", "0", "0");
        Check.due("thirty times 9999", x.falls(0, 0, 0), 0);
    }
}
