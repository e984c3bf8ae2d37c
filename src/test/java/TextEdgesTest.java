import java.util.ArrayList;
import java.util.List;

/** Terms 1 (A TEXT) and promises 5 to 7: each sentence that names a bound, just inside it and just outside it. */
final class TextEdgesTest {
    private static final int BAD = -2, FULL = -4, MAX = Check.MAX, MIN = Check.MIN;
    private static final String GOOD = "runs1;clogs1;rues1;";
    private static final String NAMES_AND_KEYS = "rue number wet day had most runs clogs rues or and not";

    public static void main(String[] args) {
        feedBytesFrom0To255();
        tapeOf160Bytes();
        feedIsBadAheadOfFull();
        textOf160Bytes();
        tapeIsEmptyBehindText();
        textOfAnEmptyTape();
        sixTextsAtMost();
        fullIsAheadOfAll();
        faultTakesNoRoom();
        forceOneOfTheTexts();
        theRuleAtFirst();
        byteAheadOfAOne();
        byteBehindAKey();
        byteBehindAText();
        wordsAsLongAsCanBe();
        wordsNeitherKeyNorName();
        numbersOf4Digits();
        numbersAsManyDigitsAsStandThere();
        partsInTheirOrder();
        endsTooEarly();
        oneComparisonAtMost();
        notOnlyAheadOfANot();
        allOfFourTokens();
        sixOpeners();
        fiveOpenTillTheyEnd();
        minusBetweenOpensNothing();
        truthIs1Or0();
        intsWrap();
        tellsAreBoundedBehindTheWrap();
        namesAtTheirBounds();
        mostOfAll();
        Check.finish();
    }

    /** GOOD's answer is due if place is -1, otherwise the FAULT there. */
    private static void fault(String text, int place) {
        GlassesOfRue x = new GlassesOfRue();
        Check.due("'" + text + "'", Check.text(x, text), place < 0 ? 1 : -100 - place);
    }

    private static void good(String text) {
        fault(text, -1);
    }

    private static String blanks(int n) {
        return " ".repeat(n);
    }

    // ---- THE TAPE

    /** "A byte (0 .. 255) comes behind THE TAPE: how many it has. BAD" */
    private static void feedBytesFrom0To255() {
        GlassesOfRue x = new GlassesOfRue();
        for (int letter : new int[] {-1, 256, MAX, MIN}) {
            Check.due("feed " + letter, x.feed(letter), BAD);
            Check.due("bytes", x.count(4), 0);
        }
        Check.due("feed 0", x.feed(0), 1);
        Check.due("feed 255", x.feed(255), 2);
    }

    /** "THE TAPE (160 bytes at most)"; "FULL" */
    private static void tapeOf160Bytes() {
        GlassesOfRue x = new GlassesOfRue();
        for (int i = 1; i <= 160; i++) {
            Check.due("feed", x.feed('a'), i);
        }
        Check.due("feed byte 161", x.feed('a'), FULL);
        Check.due("feed byte 161, again", x.feed(0), FULL);
        Check.due("bytes", x.count(4), 160);
        Check.due("text", x.text(), -100);
        Check.due("feed into the empty one", x.feed('a'), 1);
    }

    private static void feedIsBadAheadOfFull() {
        GlassesOfRue x = new GlassesOfRue();
        Check.feed(x, blanks(160));
        Check.due("feed 256", x.feed(256), BAD);
        Check.due("feed -1", x.feed(-1), BAD);
        Check.due("feed 255", x.feed(255), FULL);
    }

    private static void textOf160Bytes() {
        good(GOOD + blanks(160 - GOOD.length()));
        good("runs1" + blanks(160 - GOOD.length()) + ";clogs1;rues1;");
        good("runs12" + "+1".repeat(70) + ";clogs1;rues1;");
        fault("runs1;clogs1;rues1" + blanks(160 - 18), 160);
        fault("runs1;clogs1;rues1;" + blanks(160 - 20) + "x", 159);
        // What is fed beyond 160 never stood there.
        fault("runs1;clogs1;rues1" + blanks(160 - 18) + ";", 160);
        good("runs(((((12" + "*1".repeat(65) + ")))));clogs1;rues1;");
    }

    /** "THE TAPE, which is empty then (by a FAULT, too)" */
    private static void tapeIsEmptyBehindText() {
        GlassesOfRue x = new GlassesOfRue();
        Check.due("a TEXT", Check.text(x, GOOD), 1);
        Check.due("bytes behind a TEXT", x.count(4), 0);
        Check.due("a FAULT", Check.text(x, "runs1;x"), -106);
        Check.due("bytes behind a FAULT", x.count(4), 0);
        Check.due("nothing of what stood there is read again", Check.text(x, "clogs1;rues1;"), -100);
        Check.due("nor behind what is shorter", Check.text(x, "runs1;"), -106);
        Check.due("the next TEXT", Check.text(x, GOOD), 2);
    }

    private static void textOfAnEmptyTape() {
        GlassesOfRue x = new GlassesOfRue();
        Check.due("text of nothing", x.text(), -100);
        Check.due("text of blanks", Check.text(x, blanks(160)), -260);
        Check.due("TEXTS", x.count(3), 1);
    }

    /** "There are 6 TEXTS at most, TEXT 0 with them." */
    private static void sixTextsAtMost() {
        GlassesOfRue x = Check.people(0, 0, 0);
        for (int i = 1; i <= 5; i++) {
            Check.due("TEXTS", x.count(3), i);
            Check.due("a TEXT", Check.text(x, "runs" + (9 - i) + ";clogs0;rues0;"), i);
        }
        Check.due("TEXTS", x.count(3), 6);
        Check.due("a seventh", Check.text(x, GOOD), FULL);
        Check.due("TEXTS", x.count(3), 6);
        for (int i = 1; i <= 5; i++) {
            x.force(i);
            Check.due("RUNS by TEXT " + i, x.told(0, 6), 9 - i);
        }
    }

    /** "FULL (ahead of all): no TEXT more has room (THE TAPE stays)." */
    private static void fullIsAheadOfAll() {
        GlassesOfRue x = new GlassesOfRue();
        for (int i = 1; i <= 5; i++) {
            Check.text(x, GOOD);
        }
        Check.due("of nothing", x.text(), FULL);
        Check.due("of a FAULT", Check.text(x, "oh"), FULL);
        Check.due("THE TAPE stays", x.count(4), 2);
        Check.due("of a FAULT, again", x.text(), FULL);
        Check.due("THE TAPE goes on", x.feed('x'), 3);
    }

    private static void faultTakesNoRoom() {
        GlassesOfRue x = new GlassesOfRue();
        for (int i = 0; i < 20; i++) {
            Check.due("a FAULT", Check.text(x, "runs;"), -104);
        }
        Check.due("TEXTS", x.count(3), 1);
        for (int i = 1; i <= 5; i++) {
            Check.due("a TEXT", Check.text(x, GOOD), i);
            if (i < 5) {
                Check.due("a FAULT between", Check.text(x, "("), -100);
            }
        }
    }

    /** "A TEXT is THE RULE: which was. BAD." */
    private static void forceOneOfTheTexts() {
        GlassesOfRue x = new GlassesOfRue();
        for (int text : new int[] {-1, 1, 6, MAX, MIN}) {
            Check.due("force " + text, x.force(text), BAD);
        }
        Check.text(x, GOOD);
        Check.due("force the last", x.force(1), 0);
        Check.due("force one more", x.force(2), BAD);
        Check.due("force -1", x.force(-1), BAD);
        Check.due("force 0", x.force(0), 1);
        Check.due("force 0, again", x.force(0), 0);
    }

    /** "TEXT 0, at first THE RULE, is: runs 1 + rue ; clogs 0 ; rues 1 ;" */
    private static void theRuleAtFirst() {
        GlassesOfRue x = Check.people(0, 0, 0, 0, 0, 7, 0, 0, 8, 0, 0, 999);
        Check.due("THE RULE", x.count(5), 0);
        int[] runs = {1, 8, 9, 9};
        for (int one = 0; one < 4; one++) {
            Check.due("RUNS", x.told(one, 6), runs[one]);
            Check.due("CLOGS", x.told(one, 7), 0);
            Check.due("RUES", x.told(one, 8), 1);
        }
    }

    // ---- TOKENS

    private static boolean isBlank(int b) {
        return b == 32 || b == 10;
    }

    private static boolean isLetter(int b) {
        return b >= 'a' && b <= 'z';
    }

    private static boolean isDigit(int b) {
        return b >= '0' && b <= '9';
    }

    /** "SIGNS ( ) ; + - * < = ; blanks (32, 10)"; "also of a byte that begins none": each byte where a ONE is asked. */
    private static void byteAheadOfAOne() {
        for (int b = 0; b < 256; b++) {
            boolean stands = isBlank(b) || isDigit(b) || b == '-' || b == '(';
            fault("runs " + (char) b, stands ? 6 : 5);
        }
    }

    private static void byteBehindAKey() {
        for (int b = 0; b < 256; b++) {
            String text = "runs" + (char) b + "1;clogs1;rues1;";
            if (isLetter(b)) {
                fault(text, 0);
            } else if (b == '(') {
                fault(text, 6);
            } else {
                fault(text, isBlank(b) || isDigit(b) || b == '-' ? -1 : 4);
            }
        }
    }

    private static void byteBehindAText() {
        for (int b = 0; b < 256; b++) {
            fault(GOOD + (char) b, isBlank(b) ? -1 : GOOD.length());
            fault(" \n" + GOOD + "\n " + (char) b + " ", isBlank(b) ? -1 : GOOD.length() + 4);
        }
    }

    /** "TOKENS, each as long as can be: WORDS (a .. z)": only what is neither a letter nor a digit parts a WORD. */
    private static void wordsAsLongAsCanBe() {
        for (int b = 0; b < 256; b++) {
            String text = "runs rue" + (char) b + "1;clogs1;rues1;";
            if (isLetter(b)) {
                fault(text, 5);
            } else if (b == ';') {
                fault(text, 9);
            } else if (isBlank(b)) {
                fault(text, 9);
            } else {
                fault(text, b == '+' || b == '-' || b == '*' || b == '<' || b == '=' ? -1 : 8);
            }
        }
        good("runs1or2and3or not4;clogs not(1)and not not 2;rues-1;");
        fault("runs 1 orrue;", 7);
        fault("runs not2 and notrue;", 14);
        fault("runs notnot 1;", 5);
        good("runs not\nnot 1;clogs(rue)or(rue);rues(1)and(2);");
    }

    /** "a WORD that is neither KEY nor NAME": each of them but for one letter, ahead and behind, less and more. */
    private static void wordsNeitherKeyNorName() {
        for (String word : NAMES_AND_KEYS.split(" ")) {
            boolean name = NAMES_AND_KEYS.indexOf(word + " ") < NAMES_AND_KEYS.indexOf("runs");
            fault("runs " + word, word.equals("not") || name ? 5 + word.length() : 5);
            for (String near : new String[] {word.substring(1), word.substring(0, word.length() - 1), word + "e", "e" + word,
                word.toUpperCase(), word + word, word.replace(word.charAt(1), 'x')}) {
                boolean isWord = (" " + NAMES_AND_KEYS + " ").contains(" " + near + " ");
                if (!isWord) {
                    fault("runs " + near + ";clogs 1;rues 1;", 5);
                    fault("runs - " + near + " 1;clogs 1;rues 1;", 7);
                    fault("runs ( " + near + " 1);clogs 1;rues 1;", 7);
                    fault("runs 1 + " + near + " 1;clogs 1;rues 1;", 9);
                    fault("runs 1 " + near, 7);
                    fault(near + " 1;clogs 1;rues 1;", 0);
                }
            }
        }
    }

    /** "NUMBERS (as many digits as stand there, 4 at most)"; "a NUMBER that is too long" */
    private static void numbersOf4Digits() {
        good("runs 9;clogs 99;rues 999;");
        good("runs 9999;clogs 0000;rues 0001;");
        fault("runs 10000;clogs 1;rues 1;", 5);
        fault("runs 00000;clogs 1;rues 1;", 5);
        fault("runs 1;clogs 2;rues 1 + 00001;", 24);
        fault("runs 1;clogs - 99999;rues 1;", 15);
        fault("runs " + "7".repeat(100) + ";clogs 1;rues 1;", 5);
        fault("runs " + "7".repeat(155), 5);
        fault("runs 1 12345", 7);
        good("runs 1234+5678;clogs 1234*(5678);rues rue-9999;");
    }

    private static void numbersAsManyDigitsAsStandThere() {
        fault("runs 1 2;", 7);
        fault("runs 1\n2;", 7);
        fault("runs 12ab;", 7);
        fault("runs 12rue;", 7);
        for (int v : new int[] {0, 1, 9, 10, 98, 99}) {
            value("" + v, v);
            value("00" + v, v);
        }
        value("9999 - 9900", 99);
        value("1000 - 999", 1);
        value("0990 - 0989", 1);
    }

    // ---- TEXT and E

    /** "TEXT: runs E ; clogs E ; rues E ;" */
    private static void partsInTheirOrder() {
        good(GOOD);
        fault("clogs1;runs1;rues1;", 0);
        fault("rues1;clogs1;rues1;", 0);
        fault("runs1;rues1;clogs1;", 6);
        fault("runs1;runs1;rues1;", 6);
        fault("runs1;clogs1;clogs1;", 13);
        fault("runs1;clogs1;runs1;", 13);
        fault("runs1;clogs1;rues1;rues1;", 19);
        fault("runs1;clogs1;rues1;;", 19);
        fault("runs1;;clogs1;rues1;", 6);
        fault(";", 0);
        fault("1", 0);
        fault("runs;clogs1;rues1;", 4);
        fault("runs1;clogs;rues1;", 11);
        fault("runs1;clogs1;rues;", 17);
        fault("runs1 clogs1;rues1;", 6);
        fault("runs1;clogs1 rues1;", 13);
    }

    /** "(the text's size, if it ends too early)": wherever it ends. */
    private static void endsTooEarly() {
        List<Integer> whole = new ArrayList<>(List.of(4, 5, 6, 11, 12, 13, 17, 18));
        for (int size = 0; size < GOOD.length(); size++) {
            boolean cutWord = size > 0 && !whole.contains(size);
            int wordAt = size < 4 ? 0 : size < 11 ? 6 : 13;
            fault(GOOD.substring(0, size), cutWord ? wordAt : size);
            if (!cutWord) {
                fault(GOOD.substring(0, size) + " \n ", size + 3);
            }
        }
        for (String e : new String[] {"1+", "1-", "1*", "1<", "1=", "1 or", "1 and", "not", "-", "(", "(1", "((1)", "- -", "not("}) {
            fault("runs " + e, 5 + e.length());
            fault("runs " + e + "\n", 6 + e.length());
        }
    }

    /** "SUM, perhaps < or = and a SUM" */
    private static void oneComparisonAtMost() {
        for (String a : new String[] {"<", "="}) {
            good("runs 1" + a + "2;clogs 1;rues 1;");
            for (String b : new String[] {"<", "="}) {
                fault("runs 1" + a + "2" + b + "3;", 8);
                good("runs 1" + a + "2 or 1" + b + "3;clogs 1;rues 1;");
                good("runs (1" + a + "2)" + b + "3;clogs 1;rues 1;");
                good("runs 1" + a + "(2" + b + "3);clogs 1;rues 1;");
                fault("runs 1" + a + b + "3;", 7);
            }
        }
    }

    /** "NOT: not NOT, or SUM ..": a not stands ahead of a NOT alone. */
    private static void notOnlyAheadOfANot() {
        good("runs not 1;clogs 1 or not 1;rues 1 and not 1;");
        good("runs (not 1) + 1;clogs - (not 1);rues 2 * (not 1 < 2);");
        fault("runs 1 + not 1;", 9);
        fault("runs 1 - not 1;", 9);
        fault("runs 1 * not 1;", 9);
        fault("runs 1 < not 1;", 9);
        fault("runs 1 = not 1;", 9);
        fault("runs - not 1;", 7);
        fault("runs not - not 1;", 11);
        fault("runs 1 not 1;", 7);
        fault("runs not or 1;", 9);
        fault("runs 1 or and 1;", 10);
    }

    /** Every E of up to four TOKENS, against the Model's automaton. */
    private static void allOfFourTokens() {
        String[] tokens = {"1", "rue", "+", "-", "*", "<", "=", "and", "or", "not", "(", ")", ";", "clogs"};
        for (int i = 0; i < 14 * 14 * 14 * 14; i++) {
            StringBuilder text = new StringBuilder("runs");
            for (int j = i; j > 0; j /= 14) {
                text.append(' ').append(tokens[j % 14]);
            }
            text.append(" ;clogs 1;rues 1;");
            GlassesOfRue x = new GlassesOfRue();
            Check.feed(x, text.toString());
            Model m = new Model();
            m.tape.append(text);
            Check.due("'" + text + "'", x.text(), m.text());
        }
    }

    /** "a ( , a not, a - ahead of a ONE while 5 of these are open": every row of six of them. */
    private static void sixOpeners() {
        String[] openers = {"(", "not ", "-"};
        for (int row = 0; row < 729; row++) {
            StringBuilder text = new StringBuilder("runs ");
            StringBuilder closers = new StringBuilder();
            int place = -1;
            String before = "";
            for (int i = 0, rest = row; i < 6; i++, rest /= 3) {
                String opener = openers[rest % 3];
                if (place < 0 && (i == 5 || opener.equals("not ") && before.equals("-"))) {
                    place = text.length();
                }
                if (i == 5) {
                    String five = text + "1" + closers + ";clogs 1;rues 1;";
                    fault(five, place == text.length() ? -1 : place);
                }
                text.append(opener);
                closers.append(opener.equals("(") ? ")" : "");
                before = opener;
            }
            fault(text + "1" + closers + ";clogs 1;rues 1;", place);
        }
    }

    /** "(a ( till its ) , not and - till what they belong to ends)" */
    private static void fiveOpenTillTheyEnd() {
        String end = ";clogs 1;rues 1;";
        good("runs (((((1)))))+(((((1)))))" + end);
        good("runs (((((1)+(1)))))" + end);
        fault("runs (((((1)+((1" + end, 14);
        good("runs -----1*-----1+-----1<-----1" + end);
        good("runs not not not not not 1 and not not not not not 1 or not not not not not 1" + end);
        fault("runs not 1 < -----1" + end, 17);
        fault("runs not 1 + -----1" + end, 17);
        fault("runs not 1 * -----1" + end, 17);
        good("runs not 1 < ----1" + end);
        good("runs not 1 and -----1" + end);
        good("runs not 1 or (((((1)))))" + end);
        good("runs (not not not not 1 and ----1)" + end);
        fault("runs (not not not not 1 and -----1)" + end, 32);
        good("runs -(1)*-(1)*-(1)*-(1)*-(1)*-(1)" + end);
        good("runs (----1*----1)" + end);
        fault("runs (----1*-----1)" + end, 16);
        good("runs (((((1))))) ;clogs (((((1)))));rues (((((1)))));");
        good("runs not not not not not 1;clogs -----1;rues not not(--1);");
        fault("runs 1;clogs 1;rues not not(--(1));", 30);
        // A FAULT ahead of it leaves nothing open.
        GlassesOfRue x = new GlassesOfRue();
        Check.due("five open, and no more", Check.text(x, "runs ((((("), -110);
        Check.due("none is open then", Check.text(x, "runs (((((1)))));clogs 1;rues 1;"), 1);
    }

    private static void minusBetweenOpensNothing() {
        String end = ";clogs 1;rues 1;";
        good("runs 1-1-1-1-1-1-1-1-1" + end);
        good("runs (((((1-1-1-1-1-1-1)))))" + end);
        good("runs -----1-1" + end);
        good("runs 1------1" + end);
        fault("runs 1-------1" + end, 12);
    }

    // ---- what an E tells

    /** By way of rues, of a PERSON: 0 .. 99 are told as they are. */
    private static void value(String e, int due) {
        GlassesOfRue x = Check.people(0, 0, 0);
        Check.rule(x, "runs 0;clogs 0;rues " + e + ";");
        Check.due(e, x.told(0, 8), due);
    }

    /** "of or, and, not, <, = 1 or 0 (what is not 0 is true)" */
    private static void truthIs1Or0() {
        for (int a = -2; a <= 2; a++) {
            value("not (0 + " + a(a) + ")", a == 0 ? 1 : 0);
            for (int b = -2; b <= 2; b++) {
                value(a(a) + " or " + a(b), a != 0 || b != 0 ? 1 : 0);
                value(a(a) + " and " + a(b), a != 0 && b != 0 ? 1 : 0);
                value(a(a) + " < " + a(b), a < b ? 1 : 0);
                value(a(a) + " = " + a(b), a == b ? 1 : 0);
                value("(" + a(a) + " or " + a(b) + ") * 7", a != 0 || b != 0 ? 7 : 0);
                value("(" + a(a) + " and " + a(b) + ") * 7", a != 0 && b != 0 ? 7 : 0);
            }
        }
        value("not 5 * 7", 0);
        value("(not 0) * 7", 7);
        value("7", 7);
        value("(7)", 7);
    }

    private static String a(int v) {
        return v < 0 ? "- " + -v : "" + v;
    }

    /** "An E is an int (32 bits, wrapping)" */
    private static void intsWrap() {
        String least = "2048 * 1024 * 1024";
        value(least + " < 0", 1);
        value(least + " - 1 < 0", 0);
        value("0 < " + least + " - 1", 1);
        value(least + " - 1 + 1 = " + least, 1);
        value("- (" + least + ") = " + least, 1);
        value("- (" + least + ") < 0", 1);
        value("0 - (" + least + ") < 0", 1);
        value(least + " + " + least + " = 0", 1);
        value(least + " * 2 = 0", 1);
        value("(" + least + " - 1) * 2 + 2", 0);
        value("(" + least + " - 1) * 2 + 9", 7);
        value("4096 * 1024 * 1024 + 5", 5);
        value("9999 * 9999 * 9999 = " + wrapped(9999 * 9999 * 9999), 1);
        value(least + " < " + least + " - 1", 1);
        value(least + " or 0", 1);
        value(least + " and 1", 1);
        value("4096 * 1024 * 1024 or 0", 0);
    }

    /** An int as an E: by its upper digits times 9999 and the rest. */
    private static String wrapped(int v) {
        int high = v / 99980001;
        int middle = v % 99980001 / 9999;
        int low = v % 9999;
        return "(" + high + " * 9999 * 9999 + " + middle + " * 9999 + " + low + ")";
    }

    /** "runs, rues (0 .. 99, else the bound); clogs": of the int that is left behind the wrap. */
    private static void tellsAreBoundedBehindTheWrap() {
        String least = "2048 * 1024 * 1024";
        value(least, 0);
        value(least + " - 1", 99);
        GlassesOfRue x = Check.people(1, 0, 0, 0, 0, 0);
        Check.rule(x, "runs " + least + ";clogs " + least + ";rues 1;");
        Check.due("a SCAMP RUNS 1 more than 0", x.told(0, 6), 1);
        Check.due("a PERSON CLOGS", x.told(1, 7), 1);
        Check.rule(x, "runs " + least + " - 1;clogs " + least + " * 2;rues 1;");
        Check.due("a SCAMP RUNS 9", x.told(0, 6), 9);
        Check.due("a PERSON doesn't CLOG", x.told(1, 7), 0);
    }

    /** "rue: RUE; number: NUMBER; wet: WET; day: DAY; had: HAD": at their bounds. */
    private static void namesAtTheirBounds() {
        String[] names = {"rue", "number", "wet", "day", "had"};
        int[] what = {3, 2, 1, 0, 4};
        int[] most = {999, 9, 9, 999, 999};
        for (int i = 0; i < 5; i++) {
            GlassesOfRue x = Check.people(5, 4, 4, 0, 0, 0);
            for (int j = 0; j < 5; j++) {
                x.set(what[j], 1, 2 + j);
            }
            Check.rule(x, "runs 0;clogs 0;rues " + names[i] + " - " + (most[i] - 9) + ";");
            Check.text(x, "runs 0;clogs 0;rues " + names[i] + ";");
            Check.due(names[i] + " is far less", x.told(1, 8), Math.max(0, 2 + i - most[i] + 9));
            x.set(what[i], 1, most[i]);
            Check.due(names[i] + " at most", x.told(1, 8), 9);
            x.set(what[i], 1, 0);
            x.force(2);
            Check.due(names[i] + " at least", x.told(1, 8), 0);
        }
    }

    /** "most: the most RUE that any of all has" */
    private static void mostOfAll() {
        GlassesOfRue x = Check.people(0, 0, 0);
        Check.rule(x, "runs 0;clogs 0;rues most;");
        Check.due("most of one", x.told(0, 8), 0);
        x.person(0, 0, 0);
        x.person(2, 0, 0);
        x.person(5, 0, 0);
        x.person(4, 0, 0);
        for (int one = 0; one < 5; one++) {
            x.set(3, one, 10 + one);
            Check.due("most is of " + one, x.told(0, 8), 10 + one);
        }
        x.set(3, 4, 0);
        Check.due("most is less then", x.told(0, 8), 13);
        x.set(3, 0, 99);
        Check.due("most is one's own", x.told(0, 8), 99);
    }
}
