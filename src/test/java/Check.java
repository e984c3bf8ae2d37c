/** Counts and prints what isn't as due; every test ends with finish(). */
final class Check {
    static final int MAX = 2147483647, MIN = -2147483648;

    private static int wrong = 0;
    private static int asked = 0;

    private Check() {
    }

    static void due(String call, long got, long want) {
        asked++;
        if (got != want) {
            wrong++;
            System.out.println(call + " answered " + got + ", due is " + want);
        }
    }

    static void same(String call, String got, String want) {
        asked++;
        if (!got.equals(want)) {
            wrong++;
            System.out.println(call + ": seen is\n  " + got + "\ndue is\n  " + want);
        }
    }

    static void finish() {
        System.out.println(asked + " answers, " + wrong + " not as due");
        if (wrong != 0 || asked == 0) {
            System.exit(1);
        }
    }

    static void feed(GlassesOfRue x, String text) {
        for (int i = 0; i < text.length(); i++) {
            x.feed(text.charAt(i));
        }
    }

    /** Feeds a whole text, and asks for it. */
    static int text(GlassesOfRue x, String text) {
        feed(x, text);
        return x.text();
    }

    /** Feeds a whole text that has no FAULT, and makes it THE RULE. */
    static void rule(GlassesOfRue x, String text) {
        int number = text(x, text);
        due("'" + text + "' is a TEXT", number > 0 ? 1 : number, 1);
        x.force(number);
    }

    /** A SHEET of ints with these numbers. */
    static void row(GlassesOfRue x, int sheet, int... numbers) {
        row(x, sheet, 2, numbers);
    }

    static void row(GlassesOfRue x, int sheet, int sort, int[] numbers) {
        x.sheet(sheet, sort, numbers.length);
        for (int i = 0; i < numbers.length; i++) {
            x.cell(sheet, i, numbers[i]);
        }
    }

    /** An object with these PEOPLE: KIND, NUMBER, RUE each. */
    static GlassesOfRue people(int... three) {
        GlassesOfRue x = new GlassesOfRue();
        for (int i = 0; i < three.length; i += 3) {
            x.person(three[i], three[i + 1], three[i + 2]);
        }
        return x;
    }
}
