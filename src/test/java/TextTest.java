/** Promises 5 to 7: feed, text, force. */
final class TextTest {
    public static void main(String[] args) {
        feed();
        faults();
        tooDeep();
        text();
        values();
        names();
        force();
        Check.finish();
    }

    private static void feed() {
        GlassesOfRue x = new GlassesOfRue();
        Check.due("feed -1", x.feed(-1), -2);
        Check.due("feed 256", x.feed(256), -2);
        Check.due("feed 0", x.feed(0), 1);
        Check.due("feed 255", x.feed(255), 2);
        for (int i = 3; i <= 160; i++) {
            Check.due("feed", x.feed(32), i);
        }
        Check.due("feed a full tape", x.feed(32), -4);
        Check.due("feed a full tape, wrong", x.feed(256), -2);
        Check.due("bytes of THE TAPE", x.count(4), 160);
        Check.due("byte 0 begins no token", x.text(), -100);
        Check.due("THE TAPE is empty", x.count(4), 0);
        Check.due("feed anew", x.feed(10), 1);
    }

    private static void fault(String text, int place) {
        GlassesOfRue x = new GlassesOfRue();
        Check.due("'" + text + "'", Check.text(x, text), place < 0 ? 1 : -100 - place);
        Check.due("THE TAPE is empty behind '" + text + "'", x.count(4), 0);
        Check.due("TEXTS behind '" + text + "'", x.count(3), place < 0 ? 2 : 1);
    }

    private static void good(String text) {
        fault(text, -1);
    }

    private static void faults() {
        good("runs 1;clogs 2;rues 3;");
        good("runs1;clogs2;rues3;");
        good("  runs\n1 ; clogs 2 ;\nrues 3 ;  ");
        fault("", 0);
        fault("   ", 3);
        fault("runs", 4);
        fault("runs ;", 5);
        fault("runs 1;", 7);
        fault("runs 1;  ", 9);
        fault("runs 1 clogs", 7);
        fault("clogs 1;", 0);
        fault("runs 1;rues", 7);
        fault("runs 1;clogs 2;rues 3", 21);
        fault("runs 1;clogs 2;rues 3;;", 22);
        fault("runs 1;clogs 2;rues 3; runs", 23);
        fault("runs 1\t;", 6);
        fault("Runs 1;", 0);
        fault("runs #", 5);
        fault("runs ruex;", 5);
        fault("runs ru;", 5);
        fault("runs ruez;", 5);
        fault("runs 1 az", 7);
        fault("runs 1 + mostly;", 9);
        good("runs 9999;clogs 0000;rues 0;");
        fault("runs 10000;clogs", 5);
        fault("runs 1 + 00001;", 9);
        fault("runs 1 2;", 7);
        fault("runs 2rue;", 6);
        fault("runs 1 2345678;", 7);
        fault("runs 1 nothing;", 7);
        fault("runs 1 +;", 8);
        fault("runs *1;", 5);
        fault("runs ();", 6);
        fault("runs (1;", 7);
        fault("runs 1);", 6);
        fault("runs 1<2<3;", 8);
        fault("runs 1=2<3;", 8);
        good("runs (1<2)<3 or 1;clogs 2;rues 3;");
        fault("runs 1 + not 2;", 9);
        fault("runs - not 2;", 7);
        fault("runs 1 < not 2;", 9);
        good("runs 1 + (not 2);clogs 0 or not 1 and not not 3;rues 1;");
        fault("runs or;", 5);
        fault("runs 1 or or 2;", 10);
        fault("runs 1 not 2;", 7);
        fault("runs runs;", 5);
        fault("runs 1 ; clogs 1 ; rues 1 ; \u00ff", 28);
    }

    private static void tooDeep() {
        good("runs (((((1)))));clogs 0;rues 0;");
        fault("runs ((((((1))))));clogs 0;rues 0;", 10);
        good("runs -----1;clogs 0;rues 0;");
        fault("runs ------1;clogs 0;rues 0;", 10);
        good("runs not not not not not 1;clogs 0;rues 0;");
        fault("runs not not not not not not 1;clogs 0;rues 0;", 25);
        fault("runs not not not(-(1));clogs 0;rues 0;", 18);
        fault("runs not not(-(1+(2)));clogs 0;rues 0;", 17);
        good("runs not not(-(1)+(-2));clogs 0;rues 0;");
        good("runs (((((1)+(2))))) + (1) - -1;clogs 0;rues 0;");
        good("runs not 1 and not 1 and not 1 and not 1 and not 1 and not 1;clogs 0;rues 0;");
        good("runs -1*-1*-1*-1*-1*-1-1-1-1-1-1-1-1;clogs 0;rues 0;");
        fault("runs not 1 < -----1;clogs 0;rues 0;", 17);
        good("runs not 1 < ----1;clogs 0;rues 0;");
        good("runs not 1 and -----1;clogs 0;rues 0;");
        fault("runs ((((-(1)))));clogs 0;rues 0;", 10);
        fault("runs ((((-not", 10);
        fault("runs (((((not", 10);
        good("runs (((((1)))));clogs (((((1)))));rues (((((1)))));");
    }

    private static void text() {
        GlassesOfRue x = new GlassesOfRue();
        for (int i = 1; i <= 5; i++) {
            Check.due("text " + i, Check.text(x, "runs " + i + ";clogs 0;rues 1;"), i);
        }
        Check.due("TEXTS", x.count(3), 6);
        x.feed('r');
        Check.due("FULL", x.text(), -4);
        Check.due("THE TAPE stays", x.count(4), 1);
        x.person(0, 0, 0);
        for (int i = 1; i <= 5; i++) {
            x.force(i);
            Check.due("runs by text " + i, x.told(0, 6), i);
        }
        x.force(0);
        Check.due("runs by TEXT 0", x.told(0, 6), 1);
    }

    /** What an E tells, by way of rues (0 .. 99). */
    private static void value(String e, int due) {
        GlassesOfRue x = new GlassesOfRue();
        x.person(0, 7, 20);
        x.person(2, 7, 30);
        x.set(0, 0, 11);
        x.set(1, 0, 5);
        x.set(4, 0, 3);
        Check.due("text of " + e, Check.text(x, "runs 0;clogs 0;rues " + e + ";"), 1);
        x.force(1);
        Check.due(e, x.told(0, 8), due);
    }

    private static void values() {
        value("2 + 3 * 4", 14);
        value("(2 + 3) * 4", 20);
        value("20 - 3 - 4", 13);
        value("20 - (3 - 4)", 21);
        value("- 3 + 10", 7);
        value("5 * - 3 + 16", 1);
        value("--3", 3);
        value("5 or 0", 1);
        value("0 or 0", 0);
        value("5 and 7", 1);
        value("5 and 0", 0);
        value("not 5", 0);
        value("not 0", 1);
        value("not not 5", 1);
        value("7", 7);
        value("1 < 2", 1);
        value("2 < 2", 0);
        value("2 < 1", 0);
        value("- 2 < 1", 1);
        value("2 = 2", 1);
        value("2 = 3", 0);
        value("not 1 < 2", 0);
        value("not 3 = 2 and 4", 1);
        value("1 or 0 and 0", 1);
        value("(1 or 0) and 0", 0);
        value("0 and 0 or 3", 1);
        value("1 + 1 = 2", 1);
        value("9999 * 9999 * 9999 < 0", 1);
        value("9999 * 9999 * 9999 + 9999 * 9999 * 10 + 2755 * 9999 + 2756", 42);
    }

    private static void names() {
        value("rue", 20);
        value("number", 7);
        value("wet", 5);
        value("day", 11);
        value("had", 3);
        value("most", 30);
        value("rue + number * wet - day - had", 20 + 35 - 11 - 3);
    }

    private static void force() {
        GlassesOfRue x = new GlassesOfRue();
        Check.due("force none such", x.force(1), -2);
        Check.due("force -1", x.force(-1), -2);
        Check.due("force 0", x.force(0), 0);
        Check.text(x, "runs 4;clogs 0;rues 2;");
        Check.due("a text isn't THE RULE at once", x.count(5), 0);
        Check.due("force 1", x.force(1), 0);
        Check.due("force 1 again", x.force(1), 1);
        Check.due("THE RULE", x.count(5), 1);
        Check.due("force 2", x.force(2), -2);
        Check.due("THE RULE stays", x.count(5), 1);
    }
}
