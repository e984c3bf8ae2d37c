/** Promises 1 to 4: a new object, set, person, told; and what each KIND runs, clogs, rues. */
final class PeopleTest {
    public static void main(String[] args) {
        constants();
        newObject();
        set();
        setWrong();
        person();
        kindsRun();
        kindsRue();
        kindsClog();
        told();
        Check.finish();
    }

    private static void constants() {
        Check.due("NONE", GlassesOfRue.NONE, -1);
        Check.due("BAD", GlassesOfRue.BAD, -2);
        Check.due("STATE", GlassesOfRue.STATE, -3);
        Check.due("FULL", GlassesOfRue.FULL, -4);
        Check.due("NO", GlassesOfRue.NO, -(1L << 62));
    }

    private static void newObject() {
        GlassesOfRue x = new GlassesOfRue();
        Check.due("new: PEOPLE", x.count(0), 0);
        Check.due("new: DAY", x.count(1), 0);
        Check.due("new: RUE of all", x.count(2), 0);
        Check.due("new: TEXTS", x.count(3), 1);
        Check.due("new: THE TAPE", x.count(4), 0);
        Check.due("new: THE RULE", x.count(5), 0);
        Check.due("new: WET", x.told(0, 1), 0);
        Check.due("new: nobody to be told of", x.told(0, 5), -2);
        Check.due("new: no IMAGE", x.back(), -3);
        for (int sheet = 0; sheet < 4; sheet++) {
            Check.due("new: SHEET is missing", x.cell(sheet, 0, 0), -11);
        }
    }

    private static void set() {
        GlassesOfRue x = new GlassesOfRue();
        x.person(0, 3, 4);
        Check.due("set DAY, of nobody", x.set(0, -7, 999), 0);
        Check.due("set DAY", x.set(0, 0, 5), 999);
        Check.due("set WET, of nobody", x.set(1, 77, 9), 0);
        Check.due("set WET", x.set(1, 0, 0), 9);
        Check.due("set NUMBER", x.set(2, 0, 9), 3);
        Check.due("set NUMBER 0", x.set(2, 0, 0), 9);
        Check.due("set RUE", x.set(3, 0, 999), 4);
        Check.due("set RUE 0", x.set(3, 0, 0), 999);
        Check.due("set HAD", x.set(4, 0, 999), 0);
        Check.due("set HAD 0", x.set(4, 0, 0), 999);
        Check.due("DAY", x.told(0, 0), 5);
    }

    private static void setWrong() {
        GlassesOfRue x = new GlassesOfRue();
        x.person(0, 3, 4);
        int[] most = {999, 9, 9, 999, 999};
        for (int what = 0; what < 5; what++) {
            int was = x.told(0, what);
            Check.due("set above, " + what, x.set(what, 0, most[what] + 1), -2);
            Check.due("set below, " + what, x.set(what, 0, -1), -2);
            Check.due("nothing changed, " + what, x.told(0, what), was);
        }
        for (int what = 2; what < 5; what++) {
            Check.due("set of nobody, " + what, x.set(what, 1, 0), -2);
            Check.due("set of -1, " + what, x.set(what, -1, 0), -2);
        }
        Check.due("set no such what", x.set(5, 0, 0), -2);
        Check.due("set what -1", x.set(-1, 0, 0), -2);
    }

    private static void person() {
        GlassesOfRue x = new GlassesOfRue();
        int[][] wrong = {{-1, 0, 0}, {6, 0, 0}, {0, -1, 0}, {0, 10, 0}, {0, 0, -1}, {0, 0, 1000}};
        for (int[] w : wrong) {
            Check.due("person wrong", x.person(w[0], w[1], w[2]), -2);
        }
        Check.due("nobody came", x.count(0), 0);
        for (int i = 0; i < 5; i++) {
            Check.due("person " + i, x.person(i, 9 - i, 999 - i), i);
        }
        for (int i = 0; i < 5; i++) {
            Check.due("KIND of " + i, x.told(i, 5), i);
            Check.due("NUMBER of " + i, x.told(i, 2), 9 - i);
            Check.due("RUE of " + i, x.told(i, 3), 999 - i);
            Check.due("HAD of " + i, x.told(i, 4), 0);
        }
        Check.due("a sixth", x.person(5, 0, 0), -4);
        Check.due("a wrong sixth is BAD first", x.person(6, 0, 0), -2);
        x = new GlassesOfRue();
        x.image();
        x.person(0, 0, 0);
        x.set(4, 0, 70);
        x.back();
        x.person(0, 0, 0);
        Check.due("HAD is 0 as one comes where another was", x.told(0, 4), 0);
    }

    private static void kindsRun() {
        GlassesOfRue x = new GlassesOfRue();
        for (int kind = 0; kind < 5; kind++) {
            x.person(kind, 3, 4);
        }
        int[] due = {5, 6, 2, 6, 2};
        for (int kind = 0; kind < 5; kind++) {
            Check.due("RUNS of kind " + kind, x.told(kind, 6), due[kind]);
        }
        x.set(0, 0, 10);
        Check.due("NUN on her weekday", x.told(4, 6), 9);
        Check.due("SAINT on that day", x.told(2, 6), 2);
        x.set(4, 3, 39);
        Check.due("BANKER who HAD 39", x.told(3, 6), 3);
        x.set(4, 3, 40);
        Check.due("BANKER who HAD 40", x.told(3, 6), 2);
        x.set(4, 3, 999);
        Check.due("BANKER who HAD much", x.told(3, 6), 0);
        x.set(3, 3, 999);
        Check.due("what runs tells is 99 at most: 99 + 1 - 99", x.told(3, 6), 1);
        x.set(3, 2, 15);
        Check.due("SAINT: half of 16, not half of 9", x.told(2, 6), 8);
        x.set(3, 0, 9);
        Check.due("RUNS is 9 at most", x.told(0, 6), 9);
        GlassesOfRue y = new GlassesOfRue();
        y.person(5, 7, 999);
        Check.due("CLERK RUNS her NUMBER", y.told(0, 6), 7);
        Check.text(y, "runs 0 - 5;clogs 0;rues 0;");
        y.force(1);
        y.person(0, 0, 0);
        y.person(1, 0, 0);
        y.person(2, 0, 0);
        Check.due("what runs tells is 0 at least", y.told(1, 6), 0);
        Check.due("so a SCAMP RUNS 1", y.told(2, 6), 1);
        Check.due("and a SAINT 0", y.told(3, 6), 0);
    }

    private static void kindsRue() {
        GlassesOfRue x = new GlassesOfRue();
        for (int kind = 0; kind < 4; kind++) {
            x.person(kind, 6, 0);
        }
        Check.text(x, "runs 1;clogs 0;rues 30;");
        Check.text(x, "runs 1;clogs 0;rues 200;");
        Check.text(x, "runs 1;clogs 0;rues - 1;");
        x.force(1);
        int[] due = {30, 60, 0, 66};
        for (int kind = 0; kind < 4; kind++) {
            Check.due("RUES of kind " + kind, x.told(kind, 8), due[kind]);
        }
        x.force(2);
        int[] much = {99, 99, 0, 99};
        for (int kind = 0; kind < 4; kind++) {
            Check.due("RUES at most, of kind " + kind, x.told(kind, 8), much[kind]);
        }
        x.force(3);
        int[] less = {0, 0, 0, 6};
        for (int kind = 0; kind < 4; kind++) {
            Check.due("RUES at least, of kind " + kind, x.told(kind, 8), less[kind]);
        }
        GlassesOfRue y = new GlassesOfRue();
        y.person(4, 6, 0);
        y.person(5, 6, 0);
        Check.text(y, "runs 1;clogs 0;rues rue;");
        y.force(1);
        Check.due("NUN RUES 1", y.told(0, 8), 1);
        y.set(3, 1, 4);
        Check.due("CLERK as a PERSON", y.told(1, 8), 4);
        y.set(3, 1, 6);
        Check.due("CLERK 5 at most", y.told(1, 8), 5);
    }

    private static void kindsClog() {
        GlassesOfRue x = new GlassesOfRue();
        for (int kind = 0; kind < 5; kind++) {
            x.person(kind, 1, 2);
        }
        Check.due("by TEXT 0 none CLOGS", x.all(2), 0);
        Check.text(x, "runs 3;clogs 0 - 7;rues 1;");
        x.force(1);
        Check.due("CLOG in the dry", x.all(2), 1);
        x.set(1, 0, 3);
        Check.due("CLOG at WET 3", x.all(2), 1);
        x.set(1, 0, 4);
        Check.due("CLOG at WET 4", x.all(2), 1 | 2 | 8);
        Check.due("told RUNS, be it clogged", x.told(0, 6), 3);
        Check.due("told CLOGS", x.told(0, 7), 1);
        Check.due("told MINUTES", x.told(0, 9), 0);
        Check.due("SAINT told CLOGS", x.told(2, 7), 0);
        Check.due("SAINT told MINUTES", x.told(2, 9), 1);
        x.force(0);
        x.set(4, 3, 50);
        Check.due("BANKER who HAD 50", x.told(3, 7), 0);
        x.set(4, 3, 51);
        Check.due("BANKER who HAD 51", x.told(3, 7), 1);
        x.set(4, 1, 51);
        Check.due("SCAMP who HAD 51", x.told(1, 7), 0);
        GlassesOfRue y = new GlassesOfRue();
        y.person(5, 3, 0);
        Check.text(y, "runs 3;clogs wet;rues 1;");
        y.force(1);
        Check.due("CLERK", y.told(0, 7), 0);
        y.set(1, 0, 1);
        Check.due("CLERK if yes", y.told(0, 7), 1);
    }

    private static void told() {
        GlassesOfRue x = new GlassesOfRue();
        Check.due("told DAY of nobody", x.told(5, 0), 0);
        Check.due("told WET of nobody", x.told(-5, 1), 0);
        x.person(3, 2, 1);
        for (int what = 2; what < 10; what++) {
            Check.due("told of none such " + what, x.told(1, what), -2);
            Check.due("told of -1 " + what, x.told(-1, what), -2);
        }
        Check.due("told what 10", x.told(0, 10), -2);
        Check.due("told what -1", x.told(0, -1), -2);
        int[] due = {0, 0, 2, 1, 0, 3, 3, 0, 4, 3};
        for (int what = 0; what < 10; what++) {
            Check.due("told " + what, x.told(0, what), due[what]);
        }
    }
}
